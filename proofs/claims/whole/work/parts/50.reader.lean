/-! promise 4: the first tables -/
def tv0 (j : Nat) : Nat := if j < 16 then j / 4 else j - 16
theorem tv0_f {x y : Nat} (hx : x < 4) (hy : y < 4) : tv0 (4 * x + y) = x := by
  unfold tv0
  rw [if_pos (by omega)]
  omega
theorem tv0_g {x : Nat} : tv0 (16 + x) = x := by
  unfold tv0
  rw [if_neg (by omega)]
  omega
theorem okT_0 {n : Nat} (h1 : 1 ≤ n) (h4 : n ≤ 4) : okT n tv0 := by
  refine ⟨h1, h4, fun j hj => ?_, fun x y hx hy => ?_, fun x hx => ?_⟩
  · unfold tv0; split <;> omega
  · rw [tv0_f (by omega) (by omega)]; exact hx
  · rw [tv0_g]; exact hx
def soY (v : Nat → Int32) (x : Nat) : Nat → Nat → Int32
  | 0 => v
  | y + 1 => upd (soY v x y) (4 * x + y) (nI x)
def soX (v : Nat → Int32) : Nat → Nat → Int32
  | 0 => v
  | x + 1 => upd (soY (soX v x) x 4) (16 + x) (nI x)
theorem soY_in {v : Nat → Int32} {x : Nat} : ∀ e y, y < e → soY v x e (4 * x + y) = nI x := by
  intro e
  induction e with
  | zero => intro y h; omega
  | succ e ih =>
    intro y h
    unfold soY
    by_cases q : y = e
    · subst q; rw [pk_us]
    · rw [pk_un (by omega)]; exact ih y (by omega)
theorem soY_out {v : Nat → Int32} {x : Nat} : ∀ e j, (j < 4 * x ∨ 4 * x + e ≤ j) → soY v x e j = v j := by
  intro e
  induction e with
  | zero => intro j _; rfl
  | succ e ih =>
    intro j h
    unfold soY
    rw [pk_un (by omega)]
    exact ih j (by omega)
theorem soX_in {v : Nat → Int32} : ∀ e, e ≤ 4 → (∀ x y, x < e → y < 4 → soX v e (4 * x + y) = nI x) ∧ (∀ x, x < e → soX v e (16 + x) = nI x) ∧ (∀ j, 20 ≤ j → soX v e j = v j) := by
  intro e
  induction e with
  | zero => intro _; exact ⟨fun x y h => by omega, fun x h => by omega, fun j _ => rfl⟩
  | succ e ih =>
    intro he
    obtain ⟨i1, i2, i3⟩ := ih (by omega)
    refine ⟨fun x y hx hy => ?_, fun x hx => ?_, fun j hj => ?_⟩
    · unfold soX
      rw [pk_un (by omega)]
      by_cases q : x = e
      · subst q; exact soY_in 4 y hy
      · rw [soY_out 4 _ (by omega)]; exact i1 x y (by omega) hy
    · unfold soX
      by_cases q : x = e
      · subst q; rw [pk_us]
      · rw [pk_un (by omega), soY_out 4 _ (by omega)]; exact i2 x (by omega)
    · unfold soX
      rw [pk_un (by omega), soY_out 4 _ (by omega)]; exact i3 j hj
theorem soX_as {v : Nat → Int32} : asT (soX v 4) tv0 := by
  obtain ⟨i1, i2, _⟩ := soX_in (v := v) 4 (Nat.le_refl 4)
  intro j hj
  unfold tv0
  split
  · have := i1 (j / 4) (j % 4) (by omega) (by omega)
    rw [Nat.div_add_mod] at this
    exact this
  · have := i2 (j - 16) (by omega)
    rw [show 16 + (j - 16) = j by omega] at this
    exact this
theorem startOver_eq {s x : Int32} {v : Nat → Int32} : m_X6_startOver s v x = some (x, soX v 4) := by
  unfold m_X6_startOver
  refine (bind_eq (lp_seq0 (fun k => (nI k, soX v k)) 4 (r := soX v 4) rfl (fun k hk => ?_) rfl (by decide))).trans rfl
  show m_X6_startOver_s7 (nI k) (soX v k) = _
  unfold m_X6_startOver_s7
  rw [show (4 : Int32) = nI 4 from rfl, if_neg (nI_ge hk (by decide))]
  refine (bind_eq (lp_seq0 (fun j => (nI j, soY (soX v k) k j)) 4 (r := soY (soX v k) k 4) rfl (fun j hj => ?_) rfl (by decide))).trans ?_
  · show m_X6_startOver_s14 (nI k) (nI j) _ = _
    unfold m_X6_startOver_s14
    rw [show (4 : Int32) = nI 4 from rfl, if_neg (nI_ge hj (by decide)), place2 k hk j hj, Option.bind_some, wrI_eq rfl (by omega) (by decide), nI_1]
    rfl
  · rw [place1 k hk, Option.bind_some, wrI_eq rfl (by omega) (by decide), nI_1]
    rfl
theorem begins_eq {x : Int32} {v : Nat → Int32} : m_X9_begins v x = some (upd (soX v 4) 20 x) := by
  unfold m_X9_begins
  refine (bind_eq (lp_seq0 (fun k => (nI k, soX v k)) 4 (r := soX v 4) rfl (fun k hk => ?_) rfl (by decide))).trans ?_
  · show m_X9_begins_s2 (nI k) (soX v k) = _
    unfold m_X9_begins_s2
    rw [show (4 : Int32) = nI 4 from rfl, if_neg (nI_ge hk (by decide))]
    refine (bind_eq (lp_seq0 (fun j => (nI j, soY (soX v k) k j)) 4 (r := soY (soX v k) k 4) rfl (fun j hj => ?_) rfl (by decide))).trans ?_
    · show m_X9_begins_s9 (nI k) (nI j) _ = _
      unfold m_X9_begins_s9
      rw [show (4 : Int32) = nI 4 from rfl, if_neg (nI_ge hj (by decide)), wrI_eq (j := 4 * k + j) (by rw [pk_mul, nI_add]) (by omega) (by decide), nI_1]
      rfl
    · rw [show (16 : Int32) = nI 16 from rfl, wrI_eq (j := 16 + k) (by rw [nI_add]) (by omega) (by decide), nI_1]
      rfl
  · rw [show (20 : Int32) = nI 20 from rfl, wrI_eq rfl (by decide) (by decide)]
theorem begins_as {n : Nat} {v : Nat → Int32} : as21 (upd (soX v 4) 20 (nI n)) tv0 n := by
  refine ⟨fun j hj => ?_, pk_us⟩
  rw [pk_un (by omega)]
  exact soX_as j hj
/-! the class from a place on -/
abbrev RS : Type := Int32 × Int32 × Int32 × Int32 × (Nat → Int32)
def CR (a : Nat → Int32) (L p : Nat) (s : RS) (R : Int32 × RS) : Prop := ∀ N, 62 ≤ N + p → bdS (lp (fun q : (Int32 × Int32 × Int32 × Int32 × Int32 × (Nat → Int32)) => m_X5_faultOf_s20 a (nI L) q.1 q.2.1 q.2.2.1 q.2.2.2.1 q.2.2.2.2.1 q.2.2.2.2.2) N (nI p, s)) (fun u => some u) (fun z20 => m_X5_faultOf_j57 (nI L) z20.1 z20.2.1 z20.2.2.1 z20.2.2.2.1 z20.2.2.2.2) = some R
theorem CR_go {a : Nat → Int32} {L p : Nat} {s s' : RS} {R : Int32 × RS} (hp : p < 61) (h : m_X5_faultOf_s20 a (nI L) (nI p) s.1 s.2.1 s.2.2.1 s.2.2.2.1 s.2.2.2.2 = some (.inl (nI (p + 1), s'))) (hR : CR a L (p + 1) s' R) : CR a L p s R := by
  intro N hN
  obtain ⟨N, rfl⟩ : ∃ M, N = M + 1 := ⟨N - 1, by omega⟩
  rw [lp_succ (s := (nI p, s)) h]
  exact hR N (by omega)
theorem CR_stop {a : Nat → Int32} {L p : Nat} {s : RS} {R : Int32 × RS} (hp : p < 62) (h : m_X5_faultOf_s20 a (nI L) (nI p) s.1 s.2.1 s.2.2.1 s.2.2.2.1 s.2.2.2.2 = some (.inr (.inl R))) : CR a L p s R := by
  intro N hN
  obtain ⟨N, rfl⟩ : ∃ M, N = M + 1 := ⟨N - 1, by omega⟩
  rw [lp_exit (s := (nI p, s)) h]
  rfl
theorem CR_end0 {a : Nat → Int32} {L : Nat} (hL : L ≤ 60) (it fg n : Int32) (v : Nat → Int32) : CR a L L (it, 0, fg, n, v) (-1, (it, 0, fg, n, v)) := by
  intro N hN
  obtain ⟨N, rfl⟩ : ∃ M, N = M + 1 := ⟨N - 1, by omega⟩
  rw [lp_exit (s := (nI L, (it, 0, fg, n, v))) (r := .inr (it, 0, fg, n, v)) (by
    show m_X5_faultOf_s20 a (nI L) (nI L) it 0 fg n v = _
    unfold m_X5_faultOf_s20
    rw [if_pos (nI_le (Nat.le_refl L) (by omega))])]
  rfl
theorem CR_end1 {a : Nat → Int32} {L : Nat} (hL : L ≤ 60) {it i fg n : Int32} {v : Nat → Int32} (hi : ¬ i = 0) : CR a L L (it, i, fg, n, v) (nI L, (it, i, fg, n, v)) := by
  intro N hN
  obtain ⟨N, rfl⟩ : ∃ M, N = M + 1 := ⟨N - 1, by omega⟩
  rw [lp_exit (s := (nI L, (it, i, fg, n, v))) (r := .inr (it, i, fg, n, v)) (by
    show m_X5_faultOf_s20 a (nI L) (nI L) it i fg n v = _
    unfold m_X5_faultOf_s20
    rw [if_pos (nI_le (Nat.le_refl L) (by omega))])]
  show m_X5_faultOf_j57 (nI L) it i fg n v = _
  unfold m_X5_faultOf_j57
  rw [if_neg hi]
theorem CR_blank {a : Nat → Int32} {L p : Nat} (hL : L ≤ 60) (hp : p < L) {s : RS} {R : Int32 × RS} (h : a p = 32) (hR : CR a L (p + 1) s R) : CR a L p s R := by
  refine CR_go (by omega) ?_ hR
  unfold m_X5_faultOf_s20
  rw [if_neg (nI_ge hp (by omega)), show (60 : Int32) = nI 60 from rfl, if_neg (nI_ge (by omega) (by decide)), rd_eq rfl (by omega) (by decide), if_pos h, nI_1]
theorem CR_blanks {a : Nat → Int32} {L : Nat} (hL : L ≤ 60) {s : RS} {R : Int32 × RS} : ∀ d p, p + d ≤ L → (∀ j, p ≤ j → j < p + d → a j = 32) → CR a L (p + d) s R → CR a L p s R := by
  intro d
  induction d with
  | zero => intro p _ _ h; exact h
  | succ d ih =>
    intro p hp hb h
    refine CR_blank hL (by omega) (hb p (Nat.le_refl p) (by omega)) (ih (p + 1) (by omega) (fun j h1 h2 => hb j (by omega) (by omega)) ?_)
    rw [show p + 1 + d = p + (d + 1) by omega]
    exact h
theorem CR_take0 {a : Nat → Int32} {L p : Nat} (hL : L ≤ 60) (hp : p < L) {it i fg n : Int32} {v : Nat → Int32} {u : RS} (h : ¬ a p = 32) (ht : m_X5_takes it i fg n v (a p) = some (0, u)) : CR a L p (it, i, fg, n, v) (nI p, u) := by
  refine CR_stop (by omega) ?_
  show m_X5_faultOf_s20 a (nI L) (nI p) it i fg n v = _
  unfold m_X5_faultOf_s20 bd2
  rw [if_neg (nI_ge hp (by omega)), show (60 : Int32) = nI 60 from rfl, if_neg (nI_ge (by omega) (by decide)), rd_eq rfl (by omega) (by decide), if_neg h, rd_eq rfl (by omega) (by decide), ht, Option.bind_some]
  dsimp only
  rw [if_pos rfl]
theorem CR_take1 {a : Nat → Int32} {L p : Nat} (hL : L ≤ 60) (hp : p < L) {it i fg n : Int32} {v : Nat → Int32} {u : RS} {R : Int32 × RS} (h : ¬ a p = 32) (ht : m_X5_takes it i fg n v (a p) = some (1, u)) (hR : CR a L (p + 1) u R) : CR a L p (it, i, fg, n, v) R := by
  refine CR_go (by omega) ?_ hR
  show m_X5_faultOf_s20 a (nI L) (nI p) it i fg n v = _
  unfold m_X5_faultOf_s20 bd2
  rw [if_neg (nI_ge hp (by omega)), show (60 : Int32) = nI 60 from rfl, if_neg (nI_ge (by omega) (by decide)), rd_eq rfl (by omega) (by decide), if_neg h, rd_eq rfl (by omega) (by decide), ht, Option.bind_some]
  dsimp only
  rw [if_neg one_ne0, nI_1]
/-! the class: a letter in an item -/
theorem fig_cases (t : Int32) : (t < 48 ∨ (¬ t < 48 ∧ 57 < t)) ∨ ∃ d, d ≤ 9 ∧ t = nI (48 + d) ∧ ¬ t < 48 ∧ ¬ 57 < t ∧ t - 48 = nI d := by
  by_cases h : t < 48
  · exact Or.inl (Or.inl h)
  · by_cases h9 : 57 < t
    · exact Or.inl (Or.inr ⟨h, h9⟩)
    · right
      have h0 : ¬ t < 0 := fun q => h (Int32.lt_trans q (by decide))
      obtain ⟨c, hc, rfl⟩ := nI_of h0
      have c1 : 48 ≤ c := by
        rcases Nat.lt_or_ge c 48 with q | q
        · exact absurd (nI_lt (b := 48) q (by decide)) h
        · exact q
      have c2 : c ≤ 57 := by
        rcases Nat.lt_or_ge 57 c with q | q
        · exact absurd (nI_lt (a := 57) q hc) h9
        · exact q
      refine ⟨c - 48, by omega, by rw [show 48 + (c - 48) = c by omega], h, h9, ?_⟩
      rw [show (48 : Int32) = nI 48 from rfl, pk_sub c1]
theorem n48 : ∀ d, d < 10 → ¬ nI (48 + d) < 48 ∧ ¬ 57 < nI (48 + d) ∧ ¬ nI (48 + d) = 59 ∧ nI (48 + d) - 48 = nI d := by decide +kernel
theorem d14 : ∀ d, d < 10 → (nI d < 1 ↔ d < 1) ∧ (nI d ≤ 4 ↔ d ≤ 4) := by decide +kernel
/-- what an item wants: its figures, where they go -/
def dueI (i : Int32) (n : Nat) : Nat := if i = 102 then n * n else n
def plI (i : Int32) (n k : Nat) : Nat := if i = 102 then 4 * (k / n) + k % n else 16 + k
theorem due_eq {i : Int32} {n : Nat} (hi : i = 102 ∨ i = 103) : m_X5_figuresDue i (nI n) = some (nI (dueI i n)) := by
  unfold m_X5_figuresDue dueI
  rcases hi with rfl | rfl
  · rw [if_pos rfl, if_pos rfl, pk_mul]
  · rw [if_neg (by decide), if_pos rfl, if_neg (by decide)]
theorem due_le {i : Int32} {n : Nat} (h4 : n ≤ 4) : dueI i n ≤ 16 := by
  unfold dueI
  split
  · exact Nat.mul_le_mul h4 h4
  · omega
theorem pl_lt {i : Int32} {n k : Nat} (h1 : 1 ≤ n) (h4 : n ≤ 4) (hi : i = 102 ∨ i = 103) (hk : k < dueI i n) : plI i n k < 20 := by
  unfold plI
  unfold dueI at hk
  rcases hi with rfl | rfl
  · rw [if_pos rfl] at hk ⊢
    have := Nat.div_lt_of_lt_mul hk
    have := Nat.mod_lt k (show 0 < n by omega)
    omega
  · rw [if_neg (by decide)] at hk ⊢
    omega
theorem pl_ok {i : Int32} {n k d : Nat} {tv : Nat → Nat} (hT : okT n tv) (hi : i = 102 ∨ i = 103) (hk : k < dueI i n) (hd : d < n) : okT n (setT tv (plI i n k) d) := by
  have h1 := hT.1
  unfold plI
  unfold dueI at hk
  rcases hi with rfl | rfl
  · rw [if_pos rfl] at hk ⊢
    exact okT_set hT (Nat.div_lt_of_lt_mul hk) (Nat.mod_lt k (by omega)) hd
  · rw [if_neg (by decide)] at hk ⊢
    exact okT_setG hT hk hd
theorem value_eq {i : Int32} {n k d : Nat} {v : Nat → Int32} (h1 : 1 ≤ n) (h4 : n ≤ 4) (hi : i = 102 ∨ i = 103) (hk : k < dueI i n) (hd : d < 10) : m_X5_takesValue i (nI k) (nI n) v (nI d) = some (if d < n then (1, upd v (plI i n k) (nI d)) else (0, v)) := by
  have hpl := pl_lt h1 h4 hi hk
  unfold m_X5_takesValue m_X6_has m_X5_takesValue_j40
  rw [if_neg (nI_pos (by omega))]
  by_cases e : d < n
  · rw [if_neg (nI_ge e (by omega)), Option.bind_some, if_neg one_ne0, if_pos e]
    unfold plI at hpl ⊢
    unfold dueI at hk
    rcases hi with rfl | rfl
    · rw [if_pos rfl] at hk hpl ⊢
      have hx := Nat.div_lt_of_lt_mul hk
      have hy := Nat.mod_lt k (show 0 < n by omega)
      have hk16 : k < 16 := Nat.lt_of_lt_of_le hk (Nat.mul_le_mul h4 h4)
      rw [if_neg (by decide)]
      unfold m_X5_placeOfFigure nm gd
      have hw : (if 1 < nI n then nI n else 1) = nI n := by
        by_cases q : 1 < n
        · rw [if_pos (show (1 : Int32) < nI n from nI_lt (a := 1) q (by omega))]
        · obtain rfl : n = 1 := by omega
          rfl
      rw [hw]
      dsimp only
      rw [if_pos (nI_ne0 (by omega) (by omega)), if_pos (nI_ne0 (by omega) (by omega)), pk_rem (by omega) (by omega) (by omega), pk_div (by omega) (by omega) (by omega), place2 _ (by omega) _ (by omega), Option.bind_some, Option.bind_some, put_eq hpl, Option.bind_some]
    · rw [if_neg (show ¬ (103 : Int32) = 102 by decide)] at hk hpl ⊢
      rw [if_pos rfl, place1 k (by omega), Option.bind_some, put_eq hpl, Option.bind_some]
  · rw [if_pos (nI_le (by omega) (by omega)), Option.bind_some, if_pos rfl, if_neg e]
theorem takes_good {i : Int32} {n k d : Nat} {it : Int32} {v : Nat → Int32} (h1 : 1 ≤ n) (h4 : n ≤ 4) (hi : i = 102 ∨ i = 103) (hk : k < dueI i n) (hd : d < n) : m_X5_takes it i (nI k) (nI n) v (nI (48 + d)) = some (1, (it, i, nI (k + 1), nI n, upd v (plI i n k) (nI d))) := by
  have hle := due_le (i := i) h4
  unfold m_X5_takes m_X5_takesFigure m_X5_takesFigure_j35 bd2 gd
  have hi0 : ¬ i = 0 := by rcases hi with rfl | rfl <;> decide
  have hi110 : ¬ i = 110 := by rcases hi with rfl | rfl <;> decide
  rw [if_neg hi0, if_neg (n48 d (by omega)).2.2.1, if_neg (n48 d (by omega)).1, if_neg (n48 d (by omega)).2.1, due_eq hi, Option.bind_some, if_pos (nI_lt hk (by omega)), if_neg hi110, (n48 d (by omega)).2.2.2, value_eq h1 h4 hi hk (by omega), if_pos hd, Option.bind_some]
  dsimp only
  rw [if_neg one_ne0, if_pos (Or.inr rfl), Option.bind_some, nI_1]
  dsimp only
  rw [if_neg one_ne0]
theorem takes_bad {i : Int32} {n k : Nat} {it t : Int32} {v : Nat → Int32} (h1 : 1 ≤ n) (h4 : n ≤ 4) (hi : i = 102 ∨ i = 103) (hk : k < dueI i n) (ht : ¬ ∃ d, d < n ∧ t = nI (48 + d)) : ∃ u, m_X5_takes it i (nI k) (nI n) v t = some (0, u) := by
  have hle := due_le (i := i) h4
  unfold m_X5_takes m_X5_takesFigure m_X5_takesFigure_j35 bd2 gd
  have hi0 : ¬ i = 0 := by rcases hi with rfl | rfl <;> decide
  have hi110 : ¬ i = 110 := by rcases hi with rfl | rfl <;> decide
  rw [if_neg hi0]
  by_cases e : t = 59
  · rw [if_pos e]
    unfold m_X5_ends
    rw [due_eq hi, Option.bind_some, if_neg (nI_ge hk (by omega)), Option.bind_some]
    dsimp only
    rw [if_pos (Or.inl rfl)]
    exact ⟨_, rfl⟩
  · rw [if_neg e]
    rcases fig_cases t with (h | ⟨h, h9⟩) | ⟨d, hd, hte, h, h9, hs⟩
    · rw [if_pos h]; exact ⟨_, rfl⟩
    · rw [if_neg h, if_pos h9]; exact ⟨_, rfl⟩
    · rw [if_neg h, if_neg h9, due_eq hi, Option.bind_some, if_pos (nI_lt hk (by omega)), if_neg hi110, hs, value_eq h1 h4 hi hk (by omega), if_neg (fun q => ht ⟨d, q, hte⟩), Option.bind_some]
      dsimp only
      rw [if_pos rfl, if_pos (Or.inl rfl), Option.bind_some]
      dsimp only
      rw [if_pos rfl]
      exact ⟨_, rfl⟩
/-- where no figure is due -/
theorem takes_end {i : Int32} {n k : Nat} {it : Int32} {v : Nat → Int32} (hi0 : ¬ i = 0) (hdue : m_X5_figuresDue i (nI n) = some (nI k)) (hk : k < 2 ^ 31) : m_X5_takes it i (nI k) (nI n) v 59 = some (1, (it + 1, 0, nI k, nI n, v)) := by
  unfold m_X5_takes bd2 gd m_X5_ends
  rw [if_neg hi0, if_pos rfl, hdue, Option.bind_some, if_pos (nI_le (Nat.le_refl k) hk), Option.bind_some]
  dsimp only
  rw [if_pos (Or.inr rfl)]
theorem takes_noend {i : Int32} {n k : Nat} {it t : Int32} {v : Nat → Int32} (hi0 : ¬ i = 0) (hdue : m_X5_figuresDue i (nI n) = some (nI k)) (hk : k < 2 ^ 31) (ht : ¬ t = 59) : ∃ u, m_X5_takes it i (nI k) (nI n) v t = some (0, u) := by
  unfold m_X5_takes m_X5_takesFigure bd2
  rw [if_neg hi0, if_neg ht]
  rcases fig_cases t with (h | ⟨h, h9⟩) | ⟨d, hd, hte, h, h9, hs⟩
  · rw [if_pos h]; exact ⟨_, rfl⟩
  · rw [if_neg h, if_pos h9]; exact ⟨_, rfl⟩
  · rw [if_neg h, if_neg h9, hdue, Option.bind_some, if_neg (nI_nlt (Nat.le_refl k) hk), Option.bind_some]
    dsimp only
    rw [if_pos rfl]
    exact ⟨_, rfl⟩
theorem takes_size {n d : Nat} {it : Int32} {v : Nat → Int32} (h1 : 1 ≤ d) (h4 : d ≤ 4) : m_X5_takes it 110 (nI 0) (nI n) v (nI (48 + d)) = some (1, (it, 110, nI 1, nI d, soX v 4)) := by
  unfold m_X5_takes m_X5_takesFigure m_X5_takesFigure_j35 m_X5_takesSize bd2 gd m_X5_figuresDue
  rw [if_neg (show ¬ (110 : Int32) = 0 by decide), if_neg (n48 d (by omega)).2.2.1, if_neg (n48 d (by omega)).1, if_neg (n48 d (by omega)).2.1, if_neg (show ¬ (110 : Int32) = 102 by decide), if_neg (show ¬ (110 : Int32) = 103 by decide), Option.bind_some, if_pos (show nI 0 < 1 by decide), if_pos rfl, (n48 d (by omega)).2.2.2, if_neg (fun q => by have := (d14 d (by omega)).1.mp q; omega), if_pos ((d14 d (by omega)).2.mpr h4), startOver_eq, Option.bind_some, Option.bind_some]
  dsimp only
  rw [if_neg one_ne0, if_pos (Or.inr rfl), Option.bind_some]
  dsimp only
  rw [if_neg one_ne0]
  rfl
theorem takes_nosize {n : Nat} {it t : Int32} {v : Nat → Int32} (ht : ¬ ∃ d, 1 ≤ d ∧ d ≤ 4 ∧ t = nI (48 + d)) : ∃ u, m_X5_takes it 110 (nI 0) (nI n) v t = some (0, u) := by
  unfold m_X5_takes m_X5_takesFigure m_X5_takesFigure_j35 m_X5_takesSize bd2 gd m_X5_figuresDue
  rw [if_neg (show ¬ (110 : Int32) = 0 by decide)]
  by_cases e : t = 59
  · rw [if_pos e]
    unfold m_X5_ends m_X5_figuresDue
    rw [if_neg (show ¬ (110 : Int32) = 102 by decide), if_neg (show ¬ (110 : Int32) = 103 by decide), Option.bind_some, if_neg (show ¬ (1 : Int32) ≤ nI 0 by decide), Option.bind_some]
    dsimp only
    rw [if_pos (Or.inl rfl)]
    exact ⟨_, rfl⟩
  · rw [if_neg e]
    rcases fig_cases t with (h | ⟨h, h9⟩) | ⟨d, hd, hte, h, h9, hs⟩
    · rw [if_pos h]; exact ⟨_, rfl⟩
    · rw [if_neg h, if_pos h9]; exact ⟨_, rfl⟩
    · rw [if_neg h, if_neg h9, if_neg (show ¬ (110 : Int32) = 102 by decide), if_neg (show ¬ (110 : Int32) = 103 by decide), Option.bind_some, if_pos (show nI 0 < 1 by decide), if_pos rfl, hs]
      by_cases d1 : d < 1
      · rw [if_pos ((d14 d (by omega)).1.mpr d1), Option.bind_some]
        dsimp only
        rw [if_pos rfl, if_pos (Or.inl rfl), Option.bind_some]
        dsimp only
        rw [if_pos rfl]
        exact ⟨_, rfl⟩
      · rw [if_neg (fun q => d1 ((d14 d (by omega)).1.mp q)), if_neg (fun q => ht ⟨d, by omega, (d14 d (by omega)).2.mp q, hte⟩), Option.bind_some]
        dsimp only
        rw [if_pos rfl, if_pos (Or.inl rfl), Option.bind_some]
        dsimp only
        rw [if_pos rfl]
        exact ⟨_, rfl⟩
/-! the reference's tokens -/
def skp (b : Nat → Int32) (L p p' : Nat) : Prop := p ≤ p' ∧ p' ≤ L ∧ ∀ j, p ≤ j → j < p' → b j = 32
theorem blanks_lp {b : Nat → Int32} {L : Nat} (hL : L ≤ 60) : ∀ d p N, p + d = L → d < N → ∃ p', skp b L p p' ∧ (p' = L ∨ (p' < L ∧ ¬ b p' = 32)) ∧ lp (fun q : Int32 => m_X9_blanks_s0 (nI L) b q) N (nI p) = some (nI p') := by
  intro d
  induction d with
  | zero =>
    intro p N hp hN
    obtain ⟨N, rfl⟩ : ∃ M, N = M + 1 := ⟨N - 1, by omega⟩
    obtain rfl : p = L := by omega
    refine ⟨p, ⟨Nat.le_refl p, Nat.le_refl p, fun j h1 h2 => by omega⟩, Or.inl rfl, lp_exit ?_⟩
    unfold m_X9_blanks_s0
    rw [if_pos (nI_le (Nat.le_refl p) (by omega))]
  | succ d ih =>
    intro p N hp hN
    obtain ⟨N, rfl⟩ : ∃ M, N = M + 1 := ⟨N - 1, by omega⟩
    by_cases e : b p = 32
    · obtain ⟨p', ⟨h1, h2, h3⟩, h4, h5⟩ := ih (p + 1) N (by omega) (by omega)
      refine ⟨p', ⟨by omega, h2, fun j g1 g2 => ?_⟩, h4, ?_⟩
      · by_cases q : j = p
        · subst q; exact e
        · exact h3 j (by omega) g2
      · rw [lp_succ (s' := nI (p + 1)) (by
          unfold m_X9_blanks_s0
          rw [if_neg (nI_ge (by omega) (by omega)), rd_eq rfl (by omega) (by decide), if_pos e, nI_1])]
        exact h5
    · refine ⟨p, ⟨Nat.le_refl p, by omega, fun j h1 h2 => by omega⟩, Or.inr ⟨by omega, e⟩, lp_exit ?_⟩
      unfold m_X9_blanks_s0
      rw [if_neg (nI_ge (by omega) (by omega)), rd_eq rfl (by omega) (by decide), if_neg e]
theorem blanks_eq {b : Nat → Int32} {L p : Nat} (hL : L ≤ 60) (hp : p ≤ L) : ∃ p', skp b L p p' ∧ (p' = L ∨ (p' < L ∧ ¬ b p' = 32)) ∧ m_X9_blanks (nI L) (nI p) b = some (nI p') := by
  obtain ⟨p', h1, h2, h3⟩ := blanks_lp (b := b) hL (L - p) p 1000 (by omega) (by omega)
  refine ⟨p', h1, h2, ?_⟩
  unfold m_X9_blanks
  rw [h3, Option.bind_some]
theorem next_eq {b : Nat → Int32} {L p : Nat} (hL : L ≤ 60) (hp : p ≤ L) (tA tk : Int32) : ∃ p', skp b L p p' ∧ ((p' = L ∧ m_X9_next (nI L) (nI p) tA tk b = some (nI L, nI L, -1)) ∨ (p' < L ∧ ¬ b p' = 32 ∧ m_X9_next (nI L) (nI p) tA tk b = some (nI (p' + 1), nI p', b p'))) := by
  obtain ⟨p', h1, h2, h3⟩ := blanks_eq (b := b) hL hp
  refine ⟨p', h1, ?_⟩
  unfold m_X9_next m_X9_next_j37
  rw [h3, Option.bind_some]
  rcases h2 with rfl | ⟨h2, h4⟩
  · left
    rw [if_pos rfl, if_pos rfl, Int32.add_zero]
    exact ⟨rfl, rfl⟩
  · right
    have hne : ¬ nI p' = nI L := fun q => by have := (nI_eq (by omega) (by omega)).mp q; omega
    rw [if_neg hne, rd_eq rfl (by omega) (by decide), if_neg hne, nI_1]
    exact ⟨h2, h4, rfl⟩
theorem figure_eq {b : Nat → Int32} {L p lo hi : Nat} {xl xh : Int32} (hL : L ≤ 60) (hp : p ≤ L) (hl : xl = nI lo) (hh : xh = nI hi) (hlo : lo ≤ 9) (hhi : hi ≤ 9) (tA tk : Int32) : ∃ p', skp b L p p' ∧ ((∃ x y, m_X9_figure (nI L) (nI p) tA tk b xl xh = some (0, (x, nI p', y)) ∧ (p' = L ∨ (p' < L ∧ ¬ b p' = 32 ∧ ¬ ∃ d, lo ≤ d ∧ d ≤ hi ∧ b p' = nI (48 + d)))) ∨ (p' < L ∧ ¬ b p' = 32 ∧ ∃ d, lo ≤ d ∧ d ≤ hi ∧ b p' = nI (48 + d) ∧ m_X9_figure (nI L) (nI p) tA tk b xl xh = some (1, (nI (p' + 1), nI p', nI (48 + d))))) := by
  obtain ⟨p', h1, h2⟩ := next_eq (b := b) hL hp tA tk
  refine ⟨p', h1, ?_⟩
  unfold m_X9_figure gd
  subst hl hh
  rcases h2 with ⟨rfl, h2⟩ | ⟨h2, h3, h4⟩
  · left
    rw [h2, Option.bind_some]
    dsimp only
    rw [in_eq, show (48 : Int32) = nI 48 from rfl, nI_add, if_pos (Int32.lt_of_lt_of_le (show (-1 : Int32) < 0 by decide) (nI_pos' (by omega))), Option.bind_some, if_pos (Or.inl rfl)]
    exact ⟨_, _, rfl, Or.inl rfl⟩
  · rw [h4, Option.bind_some]
    dsimp only
    rw [in_eq, show (48 : Int32) = nI 48 from rfl, nI_add, nI_add]
    by_cases c1 : b p' < nI (48 + lo)
    · left
      rw [if_pos c1, Option.bind_some, if_pos (Or.inl rfl)]
      refine ⟨_, _, rfl, Or.inr ⟨h2, h3, ?_⟩⟩
      rintro ⟨d, d1, d2, e⟩
      rw [e] at c1
      have := (nI_ltI (by omega) (by omega)).mp c1
      omega
    · rw [if_neg c1]
      by_cases c2 : nI (48 + hi) < b p'
      · left
        rw [if_pos c2, Option.bind_some, if_pos (Or.inl rfl)]
        refine ⟨_, _, rfl, Or.inr ⟨h2, h3, ?_⟩⟩
        rintro ⟨d, d1, d2, e⟩
        rw [e] at c2
        have := (nI_ltI (by omega) (by omega)).mp c2
        omega
      · right
        rw [if_neg c2, Option.bind_some, if_pos (Or.inr rfl)]
        have h0 : ¬ b p' < 0 := fun q => c1 (Int32.lt_of_lt_of_le q (nI_pos' (by omega)))
        obtain ⟨c, hc, e⟩ := nI_of h0
        rw [e] at c1 c2
        have c3 : 48 + lo ≤ c := by
          rcases Nat.lt_or_ge c (48 + lo) with q | q
          · exact absurd (nI_lt q (by omega)) c1
          · exact q
        have c4 : c ≤ 48 + hi := by
          rcases Nat.lt_or_ge (48 + hi) c with q | q
          · exact absurd (nI_lt q hc) c2
          · exact q
        refine ⟨h2, h3, c - 48, by omega, by omega, ?_, ?_⟩
        · rw [show 48 + (c - 48) = c by omega]; exact e
        · rw [show 48 + (c - 48) = c by omega, e]
theorem ends_eq {b : Nat → Int32} {L p : Nat} (hL : L ≤ 60) (hp : p ≤ L) (tA tk : Int32) : ∃ p', skp b L p p' ∧ ((∃ x y, m_X9_ends (nI L) (nI p) tA tk b = some (0, (x, nI p', y)) ∧ (p' = L ∨ (p' < L ∧ ¬ b p' = 32 ∧ ¬ b p' = 59))) ∨ (p' < L ∧ ¬ b p' = 32 ∧ b p' = 59 ∧ ∃ y, m_X9_ends (nI L) (nI p) tA tk b = some (1, (nI (p' + 1), nI p', y)))) := by
  obtain ⟨p', h1, h2⟩ := next_eq (b := b) hL hp tA tk
  refine ⟨p', h1, ?_⟩
  unfold m_X9_ends
  rcases h2 with ⟨rfl, h2⟩ | ⟨h2, h3, h4⟩
  · left
    rw [h2, Option.bind_some]
    dsimp only
    rw [if_neg (by decide)]
    exact ⟨_, _, rfl, Or.inl rfl⟩
  · rw [h4, Option.bind_some]
    dsimp only
    by_cases e : b p' = 59
    · right
      rw [if_pos e]
      exact ⟨h2, h3, e, _, rfl⟩
    · left
      rw [if_neg e]
      exact ⟨_, _, rfl, Or.inr ⟨h2, h3, e⟩⟩
