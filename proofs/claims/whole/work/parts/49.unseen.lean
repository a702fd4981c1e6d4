/-! promise 20 -/
def sE (a : Nat → Int32) (M : Int32) (q : Nat) : Bool := allN (fun j => decide (a j = M)) q
theorem sE_same {a b : Nat → Int32} {q : Nat} (h : txR q a b) (M : Int32) : sE b M q = sE a M q := by
  unfold sE
  rw [Bool.eq_iff_iff, allN_iff, allN_iff]
  constructor
  · intro g k hk
    have := g k hk
    rw [← h k hk] at this
    exact this
  · intro g k hk
    have := g k hk
    rw [h k hk] at this
    exact this
theorem allSeen_eq {q : Nat} (hq : q ≤ 6) {a : Nat → Int32} (M : Int32) : m_X8_allSeenIs (nI q) a M = some (bI (sE a M q)) := by
  unfold m_X8_allSeenIs
  refine all_bd (fun j => decide (a j = M)) q (by omega) (fun k hk => ?_) ?_
  · have h6 : ¬ (6 : Int32) ≤ nI k := by
      have q : ¬ nI 6 ≤ nI k := nI_ge (show k < 6 by omega) (by decide)
      exact q
    unfold m_X8_allSeenIs_s2
    rw [if_neg (nI_ge hk (by omega)), if_neg h6, rd_eq rfl (by omega) (by decide), nI_1]
    by_cases e : a k = M
    · rw [if_pos e, if_pos (decide_eq_true e)]
    · rw [if_neg e, if_neg (fun h => e (of_decide_eq_true h))]
  · unfold m_X8_allSeenIs_s2
    rw [if_pos (nI_le (Nat.le_refl q) (by omega))]
theorem isSeen_eq {q : Nat} (hq : q ≤ 6) {a : Nat → Int32} (M : Int32) : m_X9_isSeen (nI q) a M = some (bI (sE a M q)) := by
  unfold m_X9_isSeen
  have e := lp_and (step := fun q' : (Int32 × Int32) => m_X9_isSeen_s4 (nI q) a M q'.1 q'.2) (fun j => decide (a j = M)) q (by omega) true (fun k b hk => ?_) (fun b => ?_)
  · rw [show bI true = 1 from rfl] at e
    rw [e, Option.bind_some]
    unfold gd
    rw [if_pos (bI_or _), Bool.true_and]
    rfl
  · show m_X9_isSeen_s4 (nI q) a M (bI b) (nI k) = _
    unfold m_X9_isSeen_s4
    rw [if_neg (nI_ge hk (by omega)), nI_1]
    cases b
    · rw [if_pos (show bI false = 0 from rfl)]; rfl
    · rw [if_neg (show ¬ bI true = 0 by decide), rd_eq rfl (by omega) (by decide), Bool.true_and]
      by_cases e : a k = M
      · rw [if_pos e, decide_eq_true e]; rfl
      · rw [if_neg e, decide_eq_false e]; rfl
  · show m_X9_isSeen_s4 (nI q) a M (bI b) (nI q) = _
    unfold m_X9_isSeen_s4
    rw [if_pos (nI_le (Nat.le_refl q) (by omega))]
def anN (P : Nat → Bool) : Nat → Bool
  | 0 => false
  | e + 1 => anN P e || P e
theorem anN_up {P : Nat → Bool} {k : Nat} (h : anN P k = true) : ∀ d, anN P (k + d) = true := by
  intro d
  induction d with
  | zero => exact h
  | succ d ih => show (anN P (k + d) || P (k + d)) = true; rw [ih]; rfl
/-- whether c fits in place p -/
def fitC (a : Nat → Int32) (q : Nat) (tv : Nat → Nat) (n p c : Nat) : Bool := decide (c ≠ tv p) && sE a (nI (manyC (setT tv p c) n)) q
theorem fits_lp {n x y q : Nat} {a : Nat → Int32} {tv : Nat → Nat} (hT : okT n tv) (hq : q ≤ 6) (hx : x < n) (hy : y < n) : ∀ d c N v, c + d = n → d < N → exT v tv (4 * x + y) → anN (fitC a q tv n (4 * x + y)) c = false → ∃ v', exT v' tv (4 * x + y) ∧ lp (fun s : (Int32 × Int32 × (Nat → Int32)) => m_X8_someOtherValueFits_s14 (nI q) (nI n) a (nI n) (nI (4 * x + y)) (nI (tv (4 * x + y))) s.1 s.2.1 s.2.2) N (0, nI c, v) = some (bI (anN (fitC a q tv n (4 * x + y)) n), v') := by
  have h4 := hT.2.1
  have hp : 4 * x + y < 20 := by omega
  intro d
  induction d with
  | zero =>
    intro c N v hc hN hv ha
    obtain ⟨N, rfl⟩ : ∃ M, N = M + 1 := ⟨N - 1, by omega⟩
    obtain rfl : c = n := by omega
    refine ⟨v, hv, lp_exit ?_⟩
    show m_X8_someOtherValueFits_s14 _ _ _ _ _ _ 0 (nI c) v = _
    unfold m_X8_someOtherValueFits_s14
    rw [if_pos (nI_le (Nat.le_refl c) (by omega)), ha]
    rfl
  | succ d ih =>
    intro c N v hc hN hv ha
    obtain ⟨N, rfl⟩ : ∃ M, N = M + 1 := ⟨N - 1, by omega⟩
    have hcn : c < n := by omega
    have hv' : exT (upd v (4 * x + y) (nI c)) tv (4 * x + y) := exT_upd hv
    have htv := hT.2.2.1 (4 * x + y) hp
    have hst : m_X8_someOtherValueFits_s14 (nI q) (nI n) a (nI n) (nI (4 * x + y)) (nI (tv (4 * x + y))) 0 (nI c) v = some (.inl (bI (fitC a q tv n (4 * x + y) c), nI (c + 1), upd v (4 * x + y) (nI c))) := by
      unfold m_X8_someOtherValueFits_s14 fitC
      rw [if_neg (nI_ge hcn (by omega)), if_pos rfl, put_eq hp, Option.bind_some, nI_1]
      by_cases e : c = tv (4 * x + y)
      · rw [if_pos (congrArg nI e), decide_eq_false (fun h => h e), Bool.false_and]
        rfl
      · rw [if_neg (fun h => e ((nI4 c (by omega) _ htv).mp h)), howMany_eq (okT_set hT hx hy hcn) (asT_upd hv), Option.bind_some, allSeen_eq hq, Option.bind_some, decide_eq_true e, Bool.true_and]
        cases sE a (nI (manyC (setT tv (4 * x + y) c) n)) q
        · rw [if_pos (show bI false = 0 from rfl)]; rfl
        · rw [if_neg (show ¬ bI true = 0 by decide)]; rfl
    cases hf : fitC a q tv n (4 * x + y) c
    · rw [hf] at hst
      obtain ⟨v2, h2, e2⟩ := ih (c + 1) N _ (by omega) (by omega) hv' (by rw [anN, ha, hf]; rfl)
      refine ⟨v2, h2, ?_⟩
      rw [lp_succ (s := (0, nI c, v)) hst]
      exact e2
    · rw [hf] at hst
      have hn : anN (fitC a q tv n (4 * x + y)) n = true := by
        have := anN_up (P := fitC a q tv n (4 * x + y)) (k := c + 1) (by rw [anN, hf, Bool.or_true]) d
        rw [show c + 1 + d = n by omega] at this
        exact this
      refine ⟨_, hv', ?_⟩
      rw [lp_succ (s := (0, nI c, v)) hst, hn]
      obtain ⟨N, rfl⟩ : ∃ M, N = M + 1 := ⟨N - 1, by omega⟩
      refine lp_exit ?_
      show m_X8_someOtherValueFits_s14 _ _ _ _ _ _ (bI true) (nI (c + 1)) _ = _
      unfold m_X8_someOtherValueFits_s14
      rw [if_neg (show ¬ bI true = 0 by decide)]
      split <;> rfl
theorem fits_eq {n x y q : Nat} {a v t : Nat → Int32} {tv : Nat → Nat} (hT : okT n tv) (hq : q ≤ 6) (hx : x < n) (hy : y < n) (hv : asT v tv) (ht : asT t tv) : ∃ t', asT t' tv ∧ m_X8_someOtherValueFits (nI q) (nI n) a (nI n) v t (nI (4 * x + y)) = some (bI (anN (fitC a q tv n (4 * x + y)) n), t') := by
  have h4 := hT.2.1
  have hp : 4 * x + y < 20 := by omega
  unfold m_X8_someOtherValueFits
  rw [at_eq hp, Option.bind_some, hv _ hp]
  obtain ⟨v2, h2, e2⟩ := fits_lp (a := a) hT hq hx hy n 0 1000 t (by omega) (by omega) (fun j hj _ => ht j hj) rfl
  rw [show nI 0 = 0 from rfl] at e2
  rw [e2, Option.bind_some]
  unfold m_X8_someOtherValueFits_j72 gd
  rw [put_eq hp, Option.bind_some, if_pos (bI_or _)]
  exact ⟨_, exT_back h2, rfl⟩
/-- the places, as bits -/
def plB (G : Nat → Bool) : Nat → Nat
  | 0 => 0
  | k + 1 => plB G k ||| (if G k = true then 2 ^ k else 0)
def fitP (a : Nat → Int32) (q : Nat) (tv : Nat → Nat) (n k : Nat) : Bool := anN (fitC a q tv n (4 * (k / n) + k % n)) n
theorem unseen28 {n x q : Nat} {a v : Nat → Int32} {ts : Int32 × (Nat → Int32)} {tv : Nat → Nat} (hs : ts.1 = nI n) (hT : okT n tv) (hq : q ≤ 6) (hx : x < n) (hv : asT v tv) : ∀ d y N t, y + d = n → d < N → asT t tv → ∃ t', asT t' tv ∧ lp (fun s : (Int32 × Int32 × (Nat → Int32)) => m_X8_unseen_s28 (nI q) (nI n) a v ts (nI x) s.1 s.2.1 s.2.2) N (nI (plB (fitP a q tv n) (n * x + y)), nI y, t) = some (nI (plB (fitP a q tv n) (n * x + n)), t') := by
  have h4 := hT.2.1
  intro d
  induction d with
  | zero =>
    intro y N t hy hN ht
    obtain ⟨N, rfl⟩ : ∃ M, N = M + 1 := ⟨N - 1, by omega⟩
    obtain rfl : y = n := by omega
    refine ⟨t, ht, lp_exit ?_⟩
    show m_X8_unseen_s28 _ _ _ _ _ _ _ (nI y) t = _
    unfold m_X8_unseen_s28
    rw [if_pos (nI_le (Nat.le_refl y) (by omega))]
  | succ d ih =>
    intro y N t hy hN ht
    obtain ⟨N, rfl⟩ : ∃ M, N = M + 1 := ⟨N - 1, by omega⟩
    have hyn : y < n := by omega
    obtain ⟨t2, h2, e2⟩ := fits_eq (a := a) hT hq hx hyn hv ht
    have hk : fitP a q tv n (n * x + y) = anN (fitC a q tv n (4 * x + y)) n := by
      unfold fitP
      rw [Nat.mul_add_div (by omega), Nat.div_eq_of_lt hyn, Nat.mul_add_mod, Nat.mod_eq_of_lt hyn, Nat.add_zero]
    have hb : n * x + y < 31 := by
      have : n * x ≤ 4 * 3 := Nat.mul_le_mul h4 (by omega)
      omega
    have hst : m_X8_unseen_s28 (nI q) (nI n) a v ts (nI x) (nI (plB (fitP a q tv n) (n * x + y))) (nI y) t = some (.inl (nI (plB (fitP a q tv n) (n * x + (y + 1))), nI (y + 1), t2)) := by
      unfold m_X8_unseen_s28 bd2 nm
      rw [if_neg (nI_ge hyn (by omega)), place2 x (by omega) y (by omega), Option.bind_some, hs, e2, Option.bind_some, nI_1]
      show _ = some (Sum.inl (nI (plB (fitP a q tv n) (n * x + y) ||| (if fitP a q tv n (n * x + y) = true then 2 ^ (n * x + y) else 0)), nI (y + 1), t2))
      rw [hk, pk_mul, nI_add, shl1b _ hb, nI_or]
      cases anN (fitC a q tv n (4 * x + y)) n
      · dsimp only
        rw [if_pos (show bI false = 0 from rfl), if_neg (by decide), Nat.or_zero]
      · dsimp only
        rw [if_neg (show ¬ bI true = 0 by decide), if_pos rfl]
    obtain ⟨t3, h3, e3⟩ := ih (y + 1) N t2 (by omega) (by omega) h2
    refine ⟨t3, h3, ?_⟩
    rw [lp_succ (s := (nI (plB (fitP a q tv n) (n * x + y)), nI y, t)) hst]
    exact e3
theorem unseen15 {n q : Nat} {a v : Nat → Int32} {ts : Int32 × (Nat → Int32)} {tv : Nat → Nat} (hs : ts.1 = nI n) (hT : okT n tv) (hq : q ≤ 6) (hv : asT v tv) : ∀ d x N t, x + d = n → d < N → asT t tv → ∃ t', asT t' tv ∧ lp (fun s : (Int32 × Int32 × (Nat → Int32)) => m_X8_unseen_s15 (nI q) (nI n) a v ts s.1 s.2.1 s.2.2) N (nI (plB (fitP a q tv n) (n * x)), nI x, t) = some (nI (plB (fitP a q tv n) (n * n)), t') := by
  have h4 := hT.2.1
  intro d
  induction d with
  | zero =>
    intro x N t hy hN ht
    obtain ⟨N, rfl⟩ : ∃ M, N = M + 1 := ⟨N - 1, by omega⟩
    obtain rfl : x = n := by omega
    refine ⟨t, ht, lp_exit ?_⟩
    show m_X8_unseen_s15 _ _ _ _ _ _ (nI x) t = _
    unfold m_X8_unseen_s15
    rw [if_pos (nI_le (Nat.le_refl x) (by omega))]
  | succ d ih =>
    intro x N t hy hN ht
    obtain ⟨N, rfl⟩ : ∃ M, N = M + 1 := ⟨N - 1, by omega⟩
    have hxn : x < n := by omega
    obtain ⟨t2, h2, e2⟩ := unseen28 (a := a) hs hT hq hxn hv n 0 1000 t (by omega) (by omega) ht
    have hst : m_X8_unseen_s15 (nI q) (nI n) a v ts (nI (plB (fitP a q tv n) (n * x))) (nI x) t = some (.inl (nI (plB (fitP a q tv n) (n * (x + 1))), nI (x + 1), t2)) := by
      unfold m_X8_unseen_s15
      rw [Nat.add_zero, show nI 0 = 0 from rfl] at e2
      rw [if_neg (nI_ge hxn (by omega)), e2, Option.bind_some, nI_1, Nat.mul_succ]
    obtain ⟨t3, h3, e3⟩ := ih (x + 1) N t2 (by omega) (by omega) h2
    refine ⟨t3, h3, ?_⟩
    rw [lp_succ (s := (nI (plB (fitP a q tv n) (n * x)), nI x, t)) hst]
    exact e3
theorem unseen8_eq {n q : Nat} {a v t : Nat → Int32} {ts : Int32} {tv : Nat → Nat} (hT : okT n tv) (hq : q ≤ 6) (hv : asT v tv) : ∃ t', m_X8_unseen (nI q) (nI n) a ts v t = some (nI (plB (fitP a q tv n) (n * n)), (nI n, t')) := by
  unfold m_X8_unseen
  rw [copy_def, Option.bind_some]
  obtain ⟨t2, h2, e2⟩ := unseen15 (a := a) (ts := (nI n, va_cpy v t 0 0 20)) rfl hT hq hv n 0 1000 (va_cpy v t 0 0 20) (by omega) (by have := hT.2.1; omega) (copy_out hv)
  rw [Nat.mul_zero, show nI (plB (fitP a q tv n) 0) = 0 from rfl, show nI 0 = 0 from rfl] at e2
  rw [e2, Option.bind_some]
  exact ⟨_, rfl⟩
/-- the reference -/
def upB2 (b : Bool) (k : Nat) : Nat := if b = true then 2 ^ k else 0
theorem unseen39 {n k q : Nat} {a : Nat → Int32} {tv : Nat → Nat} (hT : okT n tv) (hq : q ≤ 6) (hk : k < n * n) (z : Nat) : ∀ d c N v, c + d = n → d < N → ex21 v tv n (4 * (k / n) + k % n) → ∃ v', ex21 v' tv n (4 * (k / n) + k % n) ∧ lp (fun s : (Int32 × Int32 × (Nat → Int32)) => m_X9_unseen_s39 (nI q) a (nI n) (nI k) (nI (tv (4 * (k / n) + k % n))) s.1 s.2.1 s.2.2) N (nI (z ||| upB2 (anN (fitC a q tv n (4 * (k / n) + k % n)) c) k), nI c, v) = some (nI (z ||| upB2 (anN (fitC a q tv n (4 * (k / n) + k % n)) n) k), v') := by
  have h4 := hT.2.1
  have h1 := hT.1
  have hxn : k / n < n := Nat.div_lt_of_lt_mul hk
  have hyn : k % n < n := Nat.mod_lt _ (by omega)
  have hk16 : k < 16 := Nat.lt_of_lt_of_le hk (Nat.mul_le_mul h4 h4)
  have hp : 4 * (k / n) + k % n < 20 := by omega
  have hat : (4 * (nI k / nI n)) + (nI k - nI k / nI n * nI n) = nI (4 * (k / n) + k % n) := by
    rw [pk_rem (by omega) (by omega) (by omega), pk_div (by omega) (by omega) (by omega), show (4 : Int32) = nI 4 from rfl, pk_mul, nI_add]
  intro d
  induction d with
  | zero =>
    intro c N v hc hN hv
    obtain ⟨N, rfl⟩ : ∃ M, N = M + 1 := ⟨N - 1, by omega⟩
    obtain rfl : c = n := by omega
    refine ⟨v, hv, lp_exit ?_⟩
    show m_X9_unseen_s39 _ _ _ _ _ _ (nI c) v = _
    unfold m_X9_unseen_s39
    rw [if_pos (nI_le (Nat.le_refl c) (by omega))]
  | succ d ih =>
    intro c N v hc hN hv
    obtain ⟨N, rfl⟩ : ∃ M, N = M + 1 := ⟨N - 1, by omega⟩
    have hcn : c < n := by omega
    have hv' : ex21 (upd v (4 * (k / n) + k % n) (nI c)) tv n (4 * (k / n) + k % n) := ⟨exT_upd hv.1, by rw [pk_un (by omega)]; exact hv.2⟩
    have htv := hT.2.2.1 _ hp
    have hst : m_X9_unseen_s39 (nI q) a (nI n) (nI k) (nI (tv (4 * (k / n) + k % n))) (nI (z ||| upB2 (anN (fitC a q tv n (4 * (k / n) + k % n)) c) k)) (nI c) v = some (.inl (nI (z ||| upB2 (anN (fitC a q tv n (4 * (k / n) + k % n)) (c + 1)) k), nI (c + 1), upd v (4 * (k / n) + k % n) (nI c))) := by
      unfold m_X9_unseen_s39
      rw [if_neg (nI_ge hcn (by omega)), wrI_eq hat (by omega) (by decide), nI_1, shl1b k (by omega), show (0 : Int32) = nI 0 from rfl, nI_or, nI_or, Nat.or_zero, anN]
      have hor : (z ||| upB2 (anN (fitC a q tv n (4 * (k / n) + k % n)) c) k) ||| 2 ^ k = z ||| upB2 true k := by
        cases anN (fitC a q tv n (4 * (k / n) + k % n)) c
        · show z ||| 0 ||| 2 ^ k = z ||| 2 ^ k
          rw [Nat.or_zero]
        · show z ||| 2 ^ k ||| 2 ^ k = z ||| 2 ^ k
          rw [Nat.or_assoc, Nat.or_self]
      by_cases e : c = tv (4 * (k / n) + k % n)
      · have hf : fitC a q tv n (4 * (k / n) + k % n) c = false := by unfold fitC; rw [decide_eq_false (fun h => h e), Bool.false_and]
        rw [if_pos (congrArg nI e), hf, Bool.or_false]
      · have hf : fitC a q tv n (4 * (k / n) + k % n) c = sE a (nI (manyC (setT tv (4 * (k / n) + k % n) c) n)) q := by unfold fitC; rw [decide_eq_true e, Bool.true_and]
        rw [if_neg (fun h => e ((nI4 c (by omega) _ htv).mp h)), closedOf_neg (okT_set hT hxn hyn hcn) (asT_upd hv.1) hv'.2, Option.bind_some, isSeen_eq hq, Option.bind_some, hf, hor]
        cases sE a (nI (manyC (setT tv (4 * (k / n) + k % n) c) n)) q
        · rw [if_pos (show bI false = nI 0 from rfl), Bool.or_false]
        · rw [if_neg (show ¬ bI true = nI 0 by decide), Bool.or_true]
    obtain ⟨v2, h2, e2⟩ := ih (c + 1) N _ (by omega) (by omega) hv'
    refine ⟨v2, h2, ?_⟩
    rw [lp_succ (s := (nI (z ||| upB2 (anN (fitC a q tv n (4 * (k / n) + k % n)) c) k), nI c, v)) hst]
    exact e2
theorem unseen9_lp {n q : Nat} {a : Nat → Int32} {tv : Nat → Nat} (hT : okT n tv) (hq : q ≤ 6) : ∀ d k N v, k + d = n * n → d < N → as21 v tv n → ∃ v', as21 v' tv n ∧ lp (fun s : (Int32 × Int32 × (Nat → Int32)) => m_X9_unseen_s9 (nI q) a (nI n) s.1 s.2.1 s.2.2) N (nI (plB (fitP a q tv n) k), nI k, v) = some (nI (plB (fitP a q tv n) (n * n)), v') := by
  have h4 := hT.2.1
  have h1 := hT.1
  have hnn : n * n ≤ 16 := Nat.mul_le_mul h4 h4
  intro d
  induction d with
  | zero =>
    intro k N v hc hN hv
    obtain ⟨N, rfl⟩ : ∃ M, N = M + 1 := ⟨N - 1, by omega⟩
    obtain rfl : k = n * n := by omega
    refine ⟨v, hv, lp_exit ?_⟩
    show m_X9_unseen_s9 _ _ _ _ (nI (n * n)) v = _
    unfold m_X9_unseen_s9
    rw [pk_mul, if_pos (nI_le (Nat.le_refl _) (by omega))]
  | succ d ih =>
    intro k N v hc hN hv
    obtain ⟨N, rfl⟩ : ∃ M, N = M + 1 := ⟨N - 1, by omega⟩
    have hk : k < n * n := by omega
    have hxn : k / n < n := Nat.div_lt_of_lt_mul hk
    have hyn : k % n < n := Nat.mod_lt _ (by omega)
    have hp : 4 * (k / n) + k % n < 20 := by omega
    have hat : (4 * (nI k / nI n)) + (nI k - nI k / nI n * nI n) = nI (4 * (k / n) + k % n) := by
      rw [pk_rem (by omega) (by omega) (by omega), pk_div (by omega) (by omega) (by omega), show (4 : Int32) = nI 4 from rfl, pk_mul, nI_add]
    obtain ⟨v2, h2, e2⟩ := unseen39 (a := a) hT hq hk (plB (fitP a q tv n) k) n 0 1000 v (by omega) (by omega) ⟨fun j hj _ => hv.1 j hj, hv.2⟩
    have hst : m_X9_unseen_s9 (nI q) a (nI n) (nI (plB (fitP a q tv n) k)) (nI k) v = some (.inl (nI (plB (fitP a q tv n) (k + 1)), nI (k + 1), upd v2 (4 * (k / n) + k % n) (nI (tv (4 * (k / n) + k % n))))) := by
      unfold m_X9_unseen_s9 gd
      rw [show upB2 (anN (fitC a q tv n (4 * (k / n) + k % n)) 0) k = 0 from rfl, Nat.or_zero, show nI 0 = 0 from rfl] at e2
      rw [pk_mul, if_neg (nI_ge hk (by omega)), if_pos (nI_ne0 (by omega) (by omega)), if_pos (nI_ne0 (by omega) (by omega)), rd_eq hat (by omega) (by decide), hv.1 _ hp, e2, Option.bind_some, wrI_eq hat (by omega) (by decide), nI_1]
      rfl
    obtain ⟨v3, h3, e3⟩ := ih (k + 1) N _ (by omega) (by omega) ⟨exT_back h2.1, by rw [pk_un (by omega)]; exact h2.2⟩
    refine ⟨v3, h3, ?_⟩
    rw [lp_succ (s := (nI (plB (fitP a q tv n) k), nI k, v)) hst]
    exact e3
theorem unseen9_eq {n q : Nat} {a v : Nat → Int32} {tv : Nat → Nat} (hT : okT n tv) (hq : q ≤ 6) (hv : as21 v tv n) : ∃ v', as21 v' tv n ∧ m_X9_unseen (nI q) v a = some (nI (plB (fitP a q tv n) (n * n)), v') := by
  unfold m_X9_unseen
  rw [size_eq hv.2, Option.bind_some]
  have hnn : n * n ≤ 16 := Nat.mul_le_mul hT.2.1 hT.2.1
  obtain ⟨v2, h2, e2⟩ := unseen9_lp (a := a) hT hq (n * n) 0 1000 v (by omega) (by omega) hv
  rw [show nI (plB (fitP a q tv n) 0) = 0 from rfl, show nI 0 = 0 from rfl] at e2
  rw [e2, Option.bind_some]
  exact ⟨v2, h2, rfl⟩
theorem fitP_same {a b : Nat → Int32} {q n : Nat} {tv : Nat → Nat} (h : txR q a b) : fitP b q tv n = fitP a q tv n := by
  have e : ∀ p, fitC b q tv n p = fitC a q tv n p := by
    intro p
    funext c
    unfold fitC
    rw [sE_same h]
  funext k
  unfold fitP
  rw [e]
theorem agree_unseen {n q : Nat} {a b v w t : Nat → Int32} {ts : Int32} {tv : Nat → Nat} (hT : okT n tv) (hq : q ≤ 6) (hv : asT v tv) (hw : as21 w tv n) (h : txR q a b) : ∃ r t' w', m_X8_unseen (nI q) (nI n) a ts v t = some (r, (nI n, t')) ∧ m_X9_unseen (nI q) w b = some (r, w') ∧ as21 w' tv n := by
  obtain ⟨t', e1⟩ := unseen8_eq (a := a) (t := t) (ts := ts) hT hq hv
  obtain ⟨w', h2, e2⟩ := unseen9_eq (a := b) hT hq hw
  rw [fitP_same h] at e2
  exact ⟨_, t', w', e1, e2, h2⟩
