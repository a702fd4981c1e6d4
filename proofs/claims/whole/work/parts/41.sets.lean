theorem lp_seq0 {σ ρ : Type} {step : σ → Option (σ ⊕ ρ)} (S : Nat → σ) (e : Nat) {r : ρ} {s : σ} (h0 : s = S 0) (hs : ∀ k, k < e → step (S k) = some (.inl (S (k + 1)))) (hx : step (S e) = some (.inr r)) {N : Nat} (hN : e < N) : lp step N s = some r := by
  subst h0
  exact lp_seq S e hs hx N hN
theorem bind_eq {α β : Type} {m : Option α} {r : α} {k : α → Option β} (h : m = some r) : m.bind k = k r := by rw [h]; rfl
/-! small numbers -/
theorem bit0 : ∀ s, s < 16 → ∀ k, k < 4 → (((nI s >>> (nI k &&& 31)) &&& 1 = 0) ↔ s.testBit k = false) := by decide +kernel
theorem bit1 : ∀ s, s < 16 → ∀ k, k < 4 → (((nI s >>> (nI k &&& 31)) &&& 1 = 1) ↔ s.testBit k = true) := by decide +kernel
theorem shl1 : ∀ k, k < 5 → (1 : Int32) <<< (nI k &&& 31) = nI (2 ^ k) := by decide +kernel
theorem or16 : ∀ a, a < 16 → ∀ b, b < 16 → nI a ||| nI b = nI (a ||| b) := by decide +kernel
theorem or_lt16 {a b : Nat} (ha : a < 16) (hb : b < 16) : a ||| b < 16 := Nat.or_lt_two_pow (n := 4) ha hb
theorem pow_lt16 {k : Nat} (h : k < 4) : 2 ^ k < 16 := Nat.pow_lt_pow_right (by decide) h
theorem place2 : ∀ x, x < 4 → ∀ y, y < 4 → m_X6_placeOfTwo (nI x) (nI y) = some (nI (4 * x + y)) := by decide +kernel
theorem place1 : ∀ x, x < 4 → m_X6_placeOfOne (nI x) = some (nI (16 + x)) := by decide +kernel
/-! the tables -/
def okT (n : Nat) (tv : Nat → Nat) : Prop := 1 ≤ n ∧ n ≤ 4 ∧ (∀ j, j < 20 → tv j < 4) ∧ (∀ x y, x < n → y < n → tv (4 * x + y) < n) ∧ (∀ x, x < n → tv (16 + x) < n)
def asT (v : Nat → Int32) (tv : Nat → Nat) : Prop := ∀ j, j < 20 → v j = nI (tv j)
theorem two_eq {v : Nat → Int32} {tv : Nat → Nat} (hv : asT v tv) {x y : Nat} (hx : x < 4) (hy : y < 4) : m_X6_two v (nI x) (nI y) = some (nI (tv (4 * x + y))) := by
  unfold m_X6_two
  rw [place2 x hx y hy, Option.bind_some, rd_eq rfl (by omega) (by decide), hv _ (by omega)]
theorem one_eq {v : Nat → Int32} {tv : Nat → Nat} (hv : asT v tv) {x : Nat} (hx : x < 4) : m_X6_one v (nI x) = some (nI (tv (16 + x))) := by
  unfold m_X6_one
  rw [place1 x hx, Option.bind_some, rd_eq rfl (by omega) (by decide), hv _ (by omega)]
theorem ff_eq {v : Nat → Int32} {tv : Nat → Nat} (hv : asT v tv) {x y : Nat} (hx : x < 4) (hy : y < 4) : m_X9_ff v (nI x) (nI y) = some (nI (tv (4 * x + y))) := by
  unfold m_X9_ff
  rw [rd_eq (j := 4 * x + y) (by rw [show (4 : Int32) = nI 4 from rfl, pk_mul, nI_add]) (by omega) (by decide), hv _ (by omega)]
theorem gg_eq {v : Nat → Int32} {tv : Nat → Nat} (hv : asT v tv) {x : Nat} (hx : x < 4) : m_X9_gg v (nI x) = some (nI (tv (16 + x))) := by
  unfold m_X9_gg
  rw [rd_eq (j := 16 + x) (by rw [show (16 : Int32) = nI 16 from rfl, nI_add]) (by omega) (by decide), hv _ (by omega)]
theorem size_eq {v : Nat → Int32} {n : Nat} (h : v 20 = nI n) : m_X9_size v = some (nI n) := by
  unfold m_X9_size
  rw [rd_eq (i := 20) (j := 20) rfl (by omega) (by decide), h]
/-- values of f(x, y) for y below k in the set; then of all -/
def vY (tv : Nat → Nat) (s x : Nat) : Nat → Nat
  | 0 => 0
  | k + 1 => if s.testBit k then vY tv s x k ||| 2 ^ tv (4 * x + k) else vY tv s x k
def vX (tv : Nat → Nat) (n s : Nat) : Nat → Nat
  | 0 => 0
  | k + 1 => if s.testBit k then (vX tv n s k ||| 2 ^ tv (16 + k)) ||| vY tv s k n else vX tv n s k
theorem vY_lt {tv : Nat → Nat} (h : ∀ j, j < 20 → tv j < 4) (s : Nat) {x : Nat} (hx : x < 4) : ∀ k, k ≤ 4 → vY tv s x k < 16 := by
  intro k
  induction k with
  | zero => intro _; exact Nat.zero_lt_succ _
  | succ k ih =>
    intro hk
    unfold vY
    split
    · exact or_lt16 (ih (by omega)) (pow_lt16 (h _ (by omega)))
    · exact ih (by omega)
theorem vX_lt {tv : Nat → Nat} (h : ∀ j, j < 20 → tv j < 4) {n : Nat} (hn : n ≤ 4) (s : Nat) : ∀ k, k ≤ 4 → vX tv n s k < 16 := by
  intro k
  induction k with
  | zero => intro _; exact Nat.zero_lt_succ _
  | succ k ih =>
    intro hk
    unfold vX
    split
    · exact or_lt16 (or_lt16 (ih (by omega)) (pow_lt16 (h _ (by omega)))) (vY_lt h s (by omega) n hn)
    · exact ih (by omega)
theorem valuesIn_in {n x s : Nat} {v : Nat → Int32} {tv : Nat → Nat} (hT : okT n tv) (hv : asT v tv) (hx : x < 4) (hs : s < 16) {a : Nat} (ha : a < 16) :
    lp (fun q : (Int32 × Int32) => m_X0_valuesIn_s33 (nI n) v (nI s) (nI x) q.1 q.2) 1000 (nI a, 0) = some (nI (a ||| vY tv s x n)) := by
  obtain ⟨h1, h4, hb, -, -⟩ := hT
  refine lp_seq0 (fun k => (nI (a ||| vY tv s x k), nI k)) n (by simp only [vY, Nat.or_zero, nI_0]) (fun k hk => ?_) ?_ (by omega)
  · show m_X0_valuesIn_s33 (nI n) v (nI s) (nI x) (nI (a ||| vY tv s x k)) (nI k) = _
    unfold m_X0_valuesIn_s33
    rw [if_neg (nI_ge hk (by omega)), nI_1]
    have hl := vY_lt hb s hx k (by omega)
    have hk4 : k < 4 := by omega
    by_cases hc : s.testBit k
    · rw [if_neg (fun q => by rw [(bit0 s hs k hk4).mp q] at hc; cases hc), two_eq hv hx hk4, Option.bind_some, shl1 _ (Nat.lt_of_lt_of_le (hb _ (by omega)) (by decide)), or16 _ (or_lt16 ha hl) _ (pow_lt16 (hb _ (by omega)))]
      simp only [vY, hc, if_true, Nat.or_assoc]
    · rw [if_pos ((bit0 s hs k hk4).mpr (by simpa using hc))]
      simp only [vY, hc, Bool.false_eq_true, if_false]
  · show m_X0_valuesIn_s33 (nI n) v (nI s) (nI x) (nI (a ||| vY tv s x n)) (nI n) = _
    unfold m_X0_valuesIn_s33
    rw [if_pos (nI_le (Nat.le_refl n) (by omega))]
theorem valuesIn_eq {n s : Nat} {v : Nat → Int32} {tv : Nat → Nat} (hT : okT n tv) (hv : asT v tv) (hs : s < 16) : m_X0_valuesIn (nI n) v (nI s) = some (nI (vX tv n s n)) := by
  have hT0 := hT
  obtain ⟨h1, h4, hb, -, -⟩ := hT
  unfold m_X0_valuesIn
  refine bind_eq (lp_seq0 (fun k => (nI (vX tv n s k), nI k)) n (r := nI (vX tv n s n)) (by simp only [vX, nI_0]) (fun k hk => ?_) ?_ (by omega))
  · show m_X0_valuesIn_s4 (nI n) v (nI s) (nI (vX tv n s k)) (nI k) = _
    unfold m_X0_valuesIn_s4
    rw [if_neg (nI_ge hk (by omega)), nI_1]
    have hl := vX_lt hb h4 s k (by omega)
    have hk4 : k < 4 := by omega
    by_cases hc : s.testBit k
    · rw [if_neg (fun q => by rw [(bit0 s hs k hk4).mp q] at hc; cases hc), one_eq hv hk4, Option.bind_some, shl1 _ (Nat.lt_of_lt_of_le (hb _ (by omega)) (by decide)), or16 _ hl _ (pow_lt16 (hb _ (by omega))), valuesIn_in hT0 hv hk4 hs (or_lt16 hl (pow_lt16 (hb _ (by omega)))), Option.bind_some]
      simp only [vX, hc, if_true]
    · rw [if_pos ((bit0 s hs k hk4).mpr (by simpa using hc))]
      simp only [vX, hc, Bool.false_eq_true, if_false]
  · show m_X0_valuesIn_s4 (nI n) v (nI s) (nI (vX tv n s n)) (nI n) = _
    unfold m_X0_valuesIn_s4
    rw [if_pos (nI_le (Nat.le_refl n) (by omega))]
theorem has_eq {s k : Nat} (hs : s < 16) (hk : k < 4) : m_X9_has (nI s) (nI k) = some (if s.testBit k then 1 else 0) := by
  unfold m_X9_has
  by_cases hc : s.testBit k
  · rw [if_pos ((bit1 s hs k hk).mpr hc), if_pos hc]
  · rw [if_neg (fun q => hc ((bit1 s hs k hk).mp q)), if_neg hc]
theorem or0 : ∀ a, a < 16 → nI a ||| 0 = nI a := by decide +kernel
theorem one_ne0 : ¬ (1 : Int32) = 0 := by decide
theorem wider_in {n x s : Nat} {v : Nat → Int32} {tv : Nat → Nat} (hT : okT n tv) (hv : asT v tv) (hz : v 20 = nI n) (hx : x < 4) (hs : s < 16) {a : Nat} (ha : a < 16) :
    lp (fun q : (Int32 × Int32) => m_X9_wider_s37 v (nI s) (nI x) q.1 q.2) 1000 (nI a, 0) = some (nI (if s.testBit x then a ||| vY tv s x n else a)) := by
  obtain ⟨h1, h4, hb, -, -⟩ := hT
  refine lp_seq0 (fun k => (nI (if s.testBit x then a ||| vY tv s x k else a), nI k)) n (by simp only [vY, Nat.or_zero, nI_0, ite_self]) (fun k hk => ?_) ?_ (by omega)
  · show m_X9_wider_s37 v (nI s) (nI x) (nI (if s.testBit x then a ||| vY tv s x k else a)) (nI k) = _
    unfold m_X9_wider_s37
    have hl := vY_lt hb s hx k (by omega)
    have hk4 : k < 4 := by omega
    rw [size_eq hz, Option.bind_some, if_neg (nI_ge hk (by omega)), nI_1, has_eq hs hx, Option.bind_some]
    by_cases hc : s.testBit x
    · rw [if_pos hc, if_pos hc, if_neg one_ne0, has_eq hs hk4, Option.bind_some]
      by_cases hd : s.testBit k
      · rw [if_pos hd, if_neg one_ne0, ff_eq hv hx hk4, Option.bind_some, shl1 _ (Nat.lt_of_lt_of_le (hb _ (by omega)) (by decide)), or16 _ (or_lt16 ha hl) _ (pow_lt16 (hb _ (by omega)))]
        simp only [vY, hd, if_true, hc, Nat.or_assoc]
      · rw [if_neg hd, if_pos rfl, or0 _ (or_lt16 ha hl)]
        simp only [vY, hd, Bool.false_eq_true, if_false, hc, if_true]
    · rw [if_neg hc, if_neg hc, if_pos rfl, or0 _ ha, if_neg hc]
  · show m_X9_wider_s37 v (nI s) (nI x) (nI (if s.testBit x then a ||| vY tv s x n else a)) (nI n) = _
    unfold m_X9_wider_s37
    rw [size_eq hz, Option.bind_some, if_pos (nI_le (Nat.le_refl n) (by omega))]
theorem wider_j {n x s : Nat} {v : Nat → Int32} {tv : Nat → Nat} (hT : okT n tv) (hv : asT v tv) (hz : v 20 = nI n) (hx : x < 4) (hs : s < 16) {a b : Nat} (ha : a < 16) (hb : b < 16) : m_X9_wider_j32 v (nI s) (nI x) (nI a) (nI b) = some (.inl (nI (if s.testBit x then (a ||| b) ||| vY tv s x n else a ||| b), nI (x + 1))) := by
  unfold m_X9_wider_j32
  rw [or16 a ha b hb, wider_in hT hv hz hx hs (or_lt16 ha hb), Option.bind_some, nI_1]
theorem wider_eq {n s : Nat} {v : Nat → Int32} {tv : Nat → Nat} (hT : okT n tv) (hv : asT v tv) (hz : v 20 = nI n) (hs : s < 16) : m_X9_wider v (nI s) = some (nI (s ||| vX tv n s n)) := by
  have hT0 := hT
  obtain ⟨h1, h4, hb, -, -⟩ := hT
  unfold m_X9_wider
  refine bind_eq (lp_seq0 (fun k => (nI (s ||| vX tv n s k), nI k)) n (r := nI (s ||| vX tv n s n)) (by simp only [vX, nI_0, Nat.or_zero]) (fun k hk => ?_) ?_ (by omega))
  · show m_X9_wider_s4 v (nI s) (nI (s ||| vX tv n s k)) (nI k) = _
    unfold m_X9_wider_s4
    have hl := vX_lt hb h4 s k (by omega)
    have hk4 : k < 4 := by omega
    rw [size_eq hz, Option.bind_some, if_neg (nI_ge hk (by omega)), has_eq hs hk4, Option.bind_some]
    by_cases hc : s.testBit k
    · rw [if_pos hc, if_neg one_ne0, gg_eq hv hk4, Option.bind_some, shl1 _ (Nat.lt_of_lt_of_le (hb _ (by omega)) (by decide)), wider_j hT0 hv hz hk4 hs (or_lt16 hs hl) (pow_lt16 (hb _ (by omega)))]
      simp only [vX, hc, if_true, Nat.or_assoc]
    · rw [if_neg hc, if_pos rfl, show (0 : Int32) = nI 0 from rfl, wider_j hT0 hv hz hk4 hs (or_lt16 hs hl) (by decide)]
      simp only [vX, hc, Bool.false_eq_true, if_false, Nat.or_zero]
  · show m_X9_wider_s4 v (nI s) (nI (s ||| vX tv n s n)) (nI n) = _
    unfold m_X9_wider_s4
    rw [size_eq hz, Option.bind_some, if_pos (nI_le (Nat.le_refl n) (by omega))]
theorem cl16 : ∀ w, w < 16 → ∀ s, s < 16 → ((nI w &&& (nI s ^^^ (-1)) = 0) ↔ (s ||| w = s)) := by decide +kernel
theorem nI16 : ∀ a, a < 17 → ∀ b, b < 17 → (nI a = nI b ↔ a = b) := by decide +kernel
theorem isClosed_eq {n s : Nat} {v : Nat → Int32} {tv : Nat → Nat} (hT : okT n tv) (hv : asT v tv) (hs : s < 16) : m_X0_isClosed (nI n) v (nI s) = some (if s ||| vX tv n s n = s then 1 else 0) := by
  unfold m_X0_isClosed
  have hl := vX_lt hT.2.2.1 hT.2.1 s n hT.2.1
  rw [valuesIn_eq hT hv hs, Option.bind_some]
  by_cases hc : s ||| vX tv n s n = s
  · rw [if_pos ((cl16 _ hl s hs).mpr hc), if_pos hc]
  · rw [if_neg (fun q => hc ((cl16 _ hl s hs).mp q)), if_neg hc]
theorem all_eq : ∀ n, n < 5 → m_X6_allElements (nI n) = some (nI (2 ^ n - 1)) := by decide +kernel
theorem many_eq {v : Nat → Int32} {n : Nat} (h4 : n ≤ 4) (hz : v 20 = nI n) : m_X9_setMany v = some (nI (2 ^ n)) := by
  unfold m_X9_setMany
  rw [size_eq hz, Option.bind_some, shl1 n (by omega)]
/-- the search through the sets: from s on, d sets left, c closed ones before; found, or how many there were -/
def srch (cl : Nat → Prop) [DecidablePred cl] (K : Int32) : Nat → Nat → Nat → Int32 ⊕ Nat
  | 0, _, c => .inr c
  | d + 1, s, c => if cl s then (if nI c = K then .inl (nI s) else srch cl K d (s + 1) (c + 1)) else srch cl K d (s + 1) c
theorem pow_le16 {n : Nat} (h : n ≤ 4) : 2 ^ n ≤ 16 := Nat.pow_le_pow_right (by decide) h
theorem byNumber_lp {n : Nat} {v : Nat → Int32} {tv : Nat → Nat} (hT : okT n tv) (hv : asT v tv) (K : Int32) : ∀ d s c N, s + d = 2 ^ n → d < N → lp (fun q : (Int32 × Int32) => m_X0_byNumber_s4 (nI n) v K q.1 q.2) N (nI c, nI s) = some (match srch (fun s => s ||| vX tv n s n = s) K d s c with | .inl r => .inl r | .inr _ => .inr ()) := by
  have h4 := hT.2.1
  have hp := pow_le16 h4
  have hp1 : 1 ≤ 2 ^ n := Nat.one_le_two_pow
  intro d
  induction d with
  | zero =>
    intro s c N hs hN
    obtain ⟨N, rfl⟩ : ∃ M, N = M + 1 := ⟨N - 1, by omega⟩
    refine lp_exit ?_
    show m_X0_byNumber_s4 (nI n) v K (nI c) (nI s) = _
    unfold m_X0_byNumber_s4
    rw [all_eq n (by omega), Option.bind_some, if_pos (nI_lt (by omega) (by omega))]
    rfl
  | succ d ih =>
    intro s c N hs hN
    obtain ⟨N, rfl⟩ : ∃ M, N = M + 1 := ⟨N - 1, by omega⟩
    have hstep : m_X0_byNumber_s4 (nI n) v K (nI c) (nI s) = if s ||| vX tv n s n = s then (if nI c = K then some (.inr (.inl (nI s))) else some (.inl (nI (c + 1), nI (s + 1)))) else some (.inl (nI c, nI (s + 1))) := by
      unfold m_X0_byNumber_s4
      rw [all_eq n (by omega), Option.bind_some, if_neg (nI_nlt (by omega) (by omega)), isClosed_eq hT hv (by omega), Option.bind_some]
      by_cases hc : s ||| vX tv n s n = s
      · rw [if_pos hc, if_pos hc, if_neg one_ne0, nI_1, nI_1]
      · rw [if_neg hc, if_neg hc, if_pos rfl, nI_1]
    by_cases hc : s ||| vX tv n s n = s
    · rw [if_pos hc] at hstep
      by_cases hk : nI c = K
      · rw [if_pos hk] at hstep
        rw [lp_exit (s := (nI c, nI s)) hstep]
        simp only [srch, hc, hk, if_true]
      · rw [if_neg hk] at hstep
        rw [lp_succ (s := (nI c, nI s)) hstep, ih (s + 1) (c + 1) N (by omega) (by omega)]
        simp only [srch, hc, hk, if_true, if_false]
    · rw [if_neg hc] at hstep
      rw [lp_succ (s := (nI c, nI s)) hstep, ih (s + 1) c N (by omega) (by omega)]
      simp only [srch, hc, if_false]
theorem byNumber_eq {n : Nat} {v : Nat → Int32} {tv : Nat → Nat} (hT : okT n tv) (hv : asT v tv) (K : Int32) : m_X0_byNumber (nI n) v K = some (match srch (fun s => s ||| vX tv n s n = s) K (2 ^ n) 0 0 with | .inl r => r | .inr _ => -9) := by
  unfold m_X0_byNumber
  have hp := pow_le16 hT.2.1
  rw [show ((0 : Int32), (0 : Int32)) = (nI 0, nI 0) from rfl, byNumber_lp hT hv K (2 ^ n) 0 0 1000 (by omega) (by omega)]
  cases srch (fun s => s ||| vX tv n s n = s) K (2 ^ n) 0 0 <;> rfl
theorem closedOf_lp {n : Nat} {v : Nat → Int32} {tv : Nat → Nat} (hT : okT n tv) (hv : asT v tv) (hz : v 20 = nI n) (K : Int32) : ∀ d s c N, s + d = 2 ^ n → d < N → lp (fun q : (Int32 × Int32) => m_X9_closedOf_s4 v K q.1 q.2) N (nI c, nI s) = some (match srch (fun s => s ||| vX tv n s n = s) K d s c with | .inl r => .inl r | .inr c => .inr (nI c)) := by
  have h4 := hT.2.1
  have hp := pow_le16 h4
  have hp1 : 1 ≤ 2 ^ n := Nat.one_le_two_pow
  intro d
  induction d with
  | zero =>
    intro s c N hs hN
    obtain ⟨N, rfl⟩ : ∃ M, N = M + 1 := ⟨N - 1, by omega⟩
    refine lp_exit ?_
    show m_X9_closedOf_s4 v K (nI c) (nI s) = _
    unfold m_X9_closedOf_s4
    rw [many_eq h4 hz, Option.bind_some, if_pos (nI_le (by omega) (by omega))]
    rfl
  | succ d ih =>
    intro s c N hs hN
    obtain ⟨N, rfl⟩ : ∃ M, N = M + 1 := ⟨N - 1, by omega⟩
    have hs16 : s < 16 := by omega
    have hl := vX_lt hT.2.2.1 h4 s n h4
    have hstep : m_X9_closedOf_s4 v K (nI c) (nI s) = if s ||| vX tv n s n = s then (if nI c = K then some (.inr (.inl (nI s))) else some (.inl (nI (c + 1), nI (s + 1)))) else some (.inl (nI c, nI (s + 1))) := by
      unfold m_X9_closedOf_s4
      rw [many_eq h4 hz, Option.bind_some, if_neg (nI_ge (by omega) (by omega)), wider_eq hT hv hz hs16, Option.bind_some]
      have hi := nI16 (s ||| vX tv n s n) (Nat.lt_succ_of_lt (or_lt16 hs16 hl)) s (by omega)
      by_cases hc : s ||| vX tv n s n = s
      · rw [if_pos (hi.mpr hc), if_pos hc, nI_1, nI_1]
      · rw [if_neg (fun q => hc (hi.mp q)), if_neg hc, nI_1]
    by_cases hc : s ||| vX tv n s n = s
    · rw [if_pos hc] at hstep
      by_cases hk : nI c = K
      · rw [if_pos hk] at hstep
        rw [lp_exit (s := (nI c, nI s)) hstep]
        simp only [srch, hc, hk, if_true]
      · rw [if_neg hk] at hstep
        rw [lp_succ (s := (nI c, nI s)) hstep, ih (s + 1) (c + 1) N (by omega) (by omega)]
        simp only [srch, hc, hk, if_true, if_false]
    · rw [if_neg hc] at hstep
      rw [lp_succ (s := (nI c, nI s)) hstep, ih (s + 1) c N (by omega) (by omega)]
      simp only [srch, hc, if_false]
theorem closedOf_eq {n : Nat} {v : Nat → Int32} {tv : Nat → Nat} (hT : okT n tv) (hv : asT v tv) (hz : v 20 = nI n) (K : Int32) : m_X9_closedOf v K = some (match srch (fun s => s ||| vX tv n s n = s) K (2 ^ n) 0 0 with | .inl r => r | .inr c => if 0 ≤ K then -9 else nI c) := by
  unfold m_X9_closedOf
  have hp := pow_le16 hT.2.1
  rw [show ((0 : Int32), (0 : Int32)) = (nI 0, nI 0) from rfl, closedOf_lp hT hv hz K (2 ^ n) 0 0 1000 (by omega) (by omega)]
  cases srch (fun s => s ||| vX tv n s n = s) K (2 ^ n) 0 0 with
  | inl r => rfl
  | inr c =>
    show (if 0 ≤ K then some (-9) else some (nI c)) = some (if 0 ≤ K then -9 else nI c)
    split <;> rfl
def cn (cl : Nat → Prop) [DecidablePred cl] : Nat → Nat → Nat → Nat
  | 0, _, c => c
  | d + 1, s, c => if cl s then cn cl d (s + 1) (c + 1) else cn cl d (s + 1) c
theorem cn_le (cl : Nat → Prop) [DecidablePred cl] : ∀ d s c, cn cl d s c ≤ c + d := by
  intro d
  induction d with
  | zero => intro s c; exact Nat.le_refl c
  | succ d ih =>
    intro s c
    unfold cn
    split
    · exact Nat.le_trans (ih _ _) (by omega)
    · exact Nat.le_trans (ih _ _) (by omega)
theorem srch_neg (cl : Nat → Prop) [DecidablePred cl] : ∀ d s c, c + d < 2 ^ 31 → srch cl (-1) d s c = .inr (cn cl d s c) := by
  intro d
  induction d with
  | zero => intro s c _; rfl
  | succ d ih =>
    intro s c h
    have hne : ¬ nI c = -1 := fun q => nI_pos (n := c) (by omega) (by rw [q]; decide)
    unfold srch cn
    rw [if_neg hne]
    split
    · exact ih _ _ (by omega)
    · exact ih _ _ (by omega)
/-- how many closed sets there are -/
def manyC (tv : Nat → Nat) (n : Nat) : Nat := cn (fun s => s ||| vX tv n s n = s) (2 ^ n) 0 0
theorem manyC_le (tv : Nat → Nat) {n : Nat} (h : n ≤ 4) : manyC tv n ≤ 16 := Nat.le_trans (cn_le _ _ _ _) (by have := pow_le16 h; omega)
theorem closedOf_neg {n : Nat} {v : Nat → Int32} {tv : Nat → Nat} (hT : okT n tv) (hv : asT v tv) (hz : v 20 = nI n) : m_X9_closedOf v (-1) = some (nI (manyC tv n)) := by
  have hp := pow_le16 hT.2.1
  rw [closedOf_eq hT hv hz, srch_neg _ _ _ _ (by omega)]
  rfl
theorem howMany_eq {n : Nat} {v : Nat → Int32} {tv : Nat → Nat} (hT : okT n tv) (hv : asT v tv) : m_X0_howMany (nI n) v = some (nI (manyC tv n)) := by
  have h4 := hT.2.1
  have hp := pow_le16 h4
  have hp1 : 1 ≤ 2 ^ n := Nat.one_le_two_pow
  have key : ∀ d s c N, s + d = 2 ^ n → d < N → lp (fun q : (Int32 × Int32) => m_X0_howMany_s4 (nI n) v q.1 q.2) N (nI c, nI s) = some (nI (cn (fun s => s ||| vX tv n s n = s) d s c)) := by
    intro d
    induction d with
    | zero =>
      intro s c N hs hN
      obtain ⟨N, rfl⟩ : ∃ M, N = M + 1 := ⟨N - 1, by omega⟩
      refine lp_exit ?_
      show m_X0_howMany_s4 (nI n) v (nI c) (nI s) = _
      unfold m_X0_howMany_s4
      rw [all_eq n (by omega), Option.bind_some, if_pos (nI_lt (by omega) (by omega))]
      rfl
    | succ d ih =>
      intro s c N hs hN
      obtain ⟨N, rfl⟩ : ∃ M, N = M + 1 := ⟨N - 1, by omega⟩
      have hstep : m_X0_howMany_s4 (nI n) v (nI c) (nI s) = if s ||| vX tv n s n = s then some (.inl (nI (c + 1), nI (s + 1))) else some (.inl (nI c, nI (s + 1))) := by
        unfold m_X0_howMany_s4
        rw [all_eq n (by omega), Option.bind_some, if_neg (nI_nlt (by omega) (by omega)), isClosed_eq hT hv (by omega), Option.bind_some]
        by_cases hc : s ||| vX tv n s n = s
        · rw [if_pos hc, if_pos hc, if_neg one_ne0, nI_1, nI_1]
        · rw [if_neg hc, if_neg hc, if_pos rfl, nI_1]
      by_cases hc : s ||| vX tv n s n = s
      · rw [if_pos hc] at hstep
        rw [lp_succ (s := (nI c, nI s)) hstep, ih (s + 1) (c + 1) N (by omega) (by omega)]
        simp only [cn, hc, if_true]
      · rw [if_neg hc] at hstep
        rw [lp_succ (s := (nI c, nI s)) hstep, ih (s + 1) c N (by omega) (by omega)]
        simp only [cn, hc, if_false]
  unfold m_X0_howMany
  rw [show ((0 : Int32), (0 : Int32)) = (nI 0, nI 0) from rfl, key (2 ^ n) 0 0 1000 (by omega) (by omega)]
  rfl
/-! what a set makes -/
def wd (tv : Nat → Nat) (n s : Nat) : Nat := s ||| vX tv n s n
def itw (tv : Nat → Nat) (n : Nat) : Nat → Nat → Nat
  | 0, s => s
  | k + 1, s => wd tv n (itw tv n k s)
def pc4 (s : Nat) : Nat := s % 2 + s / 2 % 2 + s / 4 % 2 + s / 8 % 2
theorem pc4_lt : ∀ w, w < 16 → ∀ s, s < 16 → ¬ s ||| w = s → pc4 s < pc4 (s ||| w) := by decide +kernel
theorem pc4_le : ∀ s, s < 16 → pc4 s ≤ 4 := by decide +kernel
theorem wd_lt {tv : Nat → Nat} {n s : Nat} (hT : okT n tv) (hs : s < 16) : wd tv n s < 16 := or_lt16 hs (vX_lt hT.2.2.1 hT.2.1 s n hT.2.1)
theorem itw_lt {tv : Nat → Nat} {n s : Nat} (hT : okT n tv) (hs : s < 16) : ∀ k, itw tv n k s < 16 := by
  intro k
  induction k with
  | zero => exact hs
  | succ k ih => exact wd_lt hT ih
theorem itw_fix {tv : Nat → Nat} {n s j : Nat} (h : wd tv n (itw tv n j s) = itw tv n j s) : ∀ d, itw tv n (j + d) s = itw tv n j s := by
  intro d
  induction d with
  | zero => rfl
  | succ d ih =>
    show wd tv n (itw tv n (j + d) s) = _
    rw [ih, h]
theorem itw_four {tv : Nat → Nat} {n s : Nat} (hT : okT n tv) (hs : s < 16) : wd tv n (itw tv n 4 s) = itw tv n 4 s := by
  by_cases hf : wd tv n (itw tv n 4 s) = itw tv n 4 s
  · exact hf
  · exfalso
    have hno : ∀ j, j ≤ 4 → ¬ wd tv n (itw tv n j s) = itw tv n j s := fun j hj q => hf (by
      have e := itw_fix q (4 - j)
      rw [show j + (4 - j) = 4 by omega] at e
      rw [e, q])
    have hup : ∀ j, j ≤ 5 → j ≤ pc4 (itw tv n j s) := by
      intro j
      induction j with
      | zero => intro _; omega
      | succ j ih =>
        intro hj
        have h1 := pc4_lt _ (vX_lt hT.2.2.1 hT.2.1 (itw tv n j s) n hT.2.1) _ (itw_lt hT hs j) (hno j (by omega))
        have h2 := ih (by omega)
        show j + 1 ≤ pc4 (wd tv n (itw tv n j s))
        unfold wd
        omega
    have h5 := hup 5 (by omega)
    have h6 := pc4_le _ (itw_lt hT hs 5)
    omega
theorem leastAround_eq {n s : Nat} {v : Nat → Int32} {tv : Nat → Nat} (hT : okT n tv) (hv : asT v tv) (hs : s < 16) : m_X0_leastAround (nI n) v (nI s) = some (nI (itw tv n 4 s)) := by
  unfold m_X0_leastAround
  refine bind_eq (lp_seq0 (fun k => (nI (itw tv n k s), nI k)) 4 (r := nI (itw tv n 4 s)) rfl (fun k hk => ?_) ?_ (by omega))
  · show m_X0_leastAround_s4 (nI n) v (nI (itw tv n k s)) (nI k) = _
    unfold m_X0_leastAround_s4
    have hl := itw_lt hT hs k
    rw [show (4 : Int32) = nI 4 from rfl, if_neg (nI_ge hk (by omega)), valuesIn_eq hT hv hl, Option.bind_some, or16 _ hl _ (vX_lt hT.2.2.1 hT.2.1 _ n hT.2.1), nI_1]
    rfl
  · rfl
theorem made_lp {n s : Nat} {v : Nat → Int32} {tv : Nat → Nat} (hT : okT n tv) (hv : asT v tv) (hz : v 20 = nI n) (hs : s < 16) : ∀ d j N, j + d = 4 → d < N → lp (fun q : Int32 => m_X9_made_s19 v q) N (nI (itw tv n j s)) = some (nI (itw tv n 4 s)) := by
  intro d
  induction d with
  | zero =>
    intro j N hj hN
    obtain ⟨N, rfl⟩ : ∃ M, N = M + 1 := ⟨N - 1, by omega⟩
    obtain rfl : j = 4 := by omega
    refine lp_exit ?_
    show m_X9_made_s19 v (nI (itw tv n 4 s)) = _
    unfold m_X9_made_s19
    rw [wider_eq hT hv hz (itw_lt hT hs 4), Option.bind_some, if_pos (show nI (itw tv n 4 s ||| vX tv n (itw tv n 4 s) n) = nI (itw tv n 4 s) from congrArg nI (itw_four hT hs))]
  | succ d ih =>
    intro j N hj hN
    obtain ⟨N, rfl⟩ : ∃ M, N = M + 1 := ⟨N - 1, by omega⟩
    have hl := itw_lt hT hs j
    by_cases hf : wd tv n (itw tv n j s) = itw tv n j s
    · have e := itw_fix hf (4 - j)
      rw [show j + (4 - j) = 4 by omega] at e
      rw [e]
      refine lp_exit ?_
      show m_X9_made_s19 v (nI (itw tv n j s)) = _
      unfold m_X9_made_s19
      rw [wider_eq hT hv hz hl, Option.bind_some, if_pos (show nI (itw tv n j s ||| vX tv n (itw tv n j s) n) = nI (itw tv n j s) from congrArg nI hf)]
    · have hstep : m_X9_made_s19 v (nI (itw tv n j s)) = some (.inl (nI (itw tv n (j + 1) s))) := by
        unfold m_X9_made_s19
        rw [wider_eq hT hv hz hl, Option.bind_some, if_neg (fun q => hf ((nI16 (itw tv n j s ||| vX tv n (itw tv n j s) n) (Nat.lt_succ_of_lt (wd_lt hT hl)) (itw tv n j s) (by omega)).mp q)), Option.bind_some]
        rfl
      rw [lp_succ (s := nI (itw tv n j s)) hstep]
      exact ih (j + 1) N (by omega) (by omega)
/-! promises 9 and 10 -/
theorem in_eq {x : Int32} {a b : Int32} : m_X9_in x a b = some (if x < a then 0 else if b < x then 0 else 1) := by
  unfold m_X9_in
  split
  · rfl
  · split <;> rfl
theorem agree_made {n : Nat} {v w : Nat → Int32} {tv : Nat → Nat} (hT : okT n tv) (hv : asT v tv) (hw : asT w tv) (hz : w 20 = nI n) (x : Int32) : ∃ r, m_X8_made (nI n) v x = some r ∧ m_X9_made w x = some r := by
  have h4 := hT.2.1
  have hp := pow_le16 h4
  have hp1 : 1 ≤ 2 ^ n := Nat.one_le_two_pow
  unfold m_X8_made m_X9_made
  rw [all_eq n (by omega), Option.bind_some, many_eq h4 hz, Option.bind_some, show (1 : Int32) = nI 1 from rfl, pk_sub hp1, in_eq, Option.bind_some]
  by_cases h0 : x < 0
  · exact ⟨-2, by rw [if_pos h0], by rw [if_pos h0, if_pos rfl]⟩
  · rw [if_neg h0, if_neg h0]
    obtain ⟨s, hs, rfl⟩ := nI_of h0
    by_cases hc : s ≤ 2 ^ n - 1
    · have hs16 : s < 16 := by omega
      have e1 : lp (fun q : Int32 => m_X9_made_s19 w q) 1000 (nI s) = some (nI (itw tv n 4 s)) := made_lp (s := s) hT hw hz hs16 4 0 1000 (by omega) (by omega)
      rw [if_pos (nI_le hc (by omega)), leastAround_eq hT hv hs16, Option.bind_some, if_neg (nI_nlt hc (by omega)), if_neg one_ne0, e1, Option.bind_some]
      exact ⟨_, rfl, rfl⟩
    · rw [if_neg (nI_ge (by omega) hs), if_pos (nI_lt (by omega) hs), if_pos rfl]
      exact ⟨_, rfl, rfl⟩
theorem agree_closed {n : Nat} {v w : Nat → Int32} {tv : Nat → Nat} (hT : okT n tv) (hv : asT v tv) (hw : asT w tv) (hz : w 20 = nI n) (x : Int32) : ∃ r, m_X8_closed (nI n) v x = some r ∧ m_X9_closed w x = some r := by
  unfold m_X8_closed m_X9_closed
  by_cases h0 : 0 ≤ x
  · rw [if_pos h0, if_pos h0, byNumber_eq hT hv, closedOf_eq hT hw hz, Option.bind_some, Option.bind_some]
    cases srch (fun s => s ||| vX tv n s n = s) x (2 ^ n) 0 0 with
    | inl r => exact ⟨_, rfl, rfl⟩
    | inr c => exact ⟨-9, rfl, by simp only [h0, if_true]⟩
  · rw [if_neg h0, if_neg h0]
    exact ⟨_, rfl, rfl⟩
