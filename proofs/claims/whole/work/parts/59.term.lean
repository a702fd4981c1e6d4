/-! promise 17 -/
theorem term_j37 {n W w m : Nat} {pi tv : Nat → Nat} {v now hb lb slots : Nat → Int32} {rows terms : Nat → Int64} {G S : Int64} (hp : PM W w pi) (hT : okT n tv) (hv : asT v tv) (hw : asT now tv) (hGS : RP n W w pi G S) (hS : ST n W w pi m rows slots terms) (hm0 : 0 < m) (fd rr : Int32) : ∃ r a b c d e f g o, m_X7_grow_j37 G (nI W) (nI n) v (nI m) 0 fd hb lb rows slots = some (r, (a, b, c, d, e, f, g)) ∧ lp (fun q : (Int32 × Int32 × (Nat → Int64)) => m_X9_term_s137 now (nI w) S q.1 q.2.1 q.2.2) 1000 (nI m, rr, terms) = some o ∧ ((r = 1 ∧ ∃ b0 : Bool, c = bI b0 ∧ ∃ m' r' t', o = (nI m', r', t') ∧ m' ≤ 200 ∧ m_X9_isTerm (nI m') t' S = some (bI b0)) ∨ (r = 0 ∧ ∃ r' t', o = (nI 201, r', t'))) := by
  obtain ⟨oc, o, h1, h2, h3⟩ := term_loop hp hT hv hw hGS 201 1000 1000 0 0 m 0 rr fd hb lb rows slots terms (by omega) (by decide) (by decide) hm0 (by omega) hS (fun a ha => absurd ha (by omega))
  rw [show nI 0 = 0 from rfl] at h1
  unfold m_X7_grow_j37
  rw [h1]
  rcases h3 with ⟨m', rd', b0, u, r', t', q1, q2, q3, q4⟩ | ⟨u, rd', t', q1, q2⟩
  · subst q1
    obtain ⟨d, e, f, g⟩ := u
    exact ⟨1, nI m', rd', bI b0, d, e, f, g, o, rfl, h2, Or.inl ⟨rfl, b0, rfl, m', r', t', q2, q3, q4⟩⟩
  · subst q1
    obtain ⟨a, b, c, d, e, f, g⟩ := u
    exact ⟨0, a, b, c, d, e, f, g, o, rfl, h2, Or.inr ⟨rfl, rd', t', q2⟩⟩
theorem maltsev_eq {n W : Nat} {x1 x2 x3 x4 : Int64} {r a b c hm rn fd wd : Int32} {f1 f2 f3 gl : Int64} {s0 hb lb slots v d e g : Nat → Int32} {rows f : Nat → Int64} (el : lp (fun q : (Int32 × Int64 × Int64 × Int64 × Int64 × Int32) => m_X7_seekMaltsev_s6 (nI n) q.1 q.2.1 q.2.2.1 q.2.2.2.1 q.2.2.2.2.1 q.2.2.2.2.2) 1000 (0, 0, 0, 0, 0, 0) = some (x1, x2, x3, x4, nI W)) (es : m_X7_startOver hm rn f1 f2 f3 gl wd slots = some (0, 0, 0, 0, 0, 0, 0, s0)) (hg : m_X7_grow 0 0 fd x1 x2 x3 x4 (nI W) hb lb rows s0 (nI n) v 3 = some (r, (a, b, c, d, e, f, g))) (hr : r = 0 ∨ r = 1) : m_X7_seekMaltsev hm rn fd f1 f2 f3 gl wd hb lb rows slots (nI n) v = some (r, (a, b, c, x1, x2, x3, x4, nI W, d, e, f, g)) := by
  unfold m_X7_seekMaltsev
  rw [es, Option.bind_some]
  dsimp only
  rw [el, Option.bind_some]
  dsimp only
  rw [hg, bd2_some, gd_t hr]
theorem majority_eq {n W : Nat} {x1 x2 x3 x4 : Int64} {r a b c hm rn fd wd : Int32} {f1 f2 f3 gl : Int64} {s0 hb lb slots v d e g : Nat → Int32} {rows f : Nat → Int64} (el : lp (fun q : (Int32 × Int64 × Int64 × Int64 × Int64 × Int32) => m_X7_seekMajority_s6 (nI n) q.1 q.2.1 q.2.2.1 q.2.2.2.1 q.2.2.2.2.1 q.2.2.2.2.2) 1000 (0, 0, 0, 0, 0, 0) = some (x1, x2, x3, x4, nI W)) (es : m_X7_startOver hm rn f1 f2 f3 gl wd slots = some (0, 0, 0, 0, 0, 0, 0, s0)) (hg : m_X7_grow 0 0 fd x1 x2 x3 x4 (nI W) hb lb rows s0 (nI n) v 3 = some (r, (a, b, c, d, e, f, g))) (hr : r = 0 ∨ r = 1) : m_X7_seekMajority hm rn fd f1 f2 f3 gl wd hb lb rows slots (nI n) v = some (r, (a, b, c, x1, x2, x3, x4, nI W, d, e, f, g)) := by
  unfold m_X7_seekMajority
  rw [es, Option.bind_some]
  dsimp only
  rw [el, Option.bind_some]
  dsimp only
  rw [hg, bd2_some, gd_t hr]
theorem j177_eq {S : Int64} {o : Int32 × Int32 × (Nat → Int64)} {r c : Int32} (h : (r = 1 ∧ ∃ b0 : Bool, c = bI b0 ∧ ∃ m' r' t', o = (nI m', r', t') ∧ m' ≤ 200 ∧ m_X9_isTerm (nI m') t' S = some (bI b0)) ∨ (r = 0 ∧ ∃ r' t', o = (nI 201, r', t'))) : ∃ u', m_X9_term_j177 S o.1 o.2.1 o.2.2 = some (if r = 0 then -4 else c, u') := by
  unfold m_X9_term_j177
  rcases h with ⟨rfl, b0, rfl, m', r', t', rfl, hm, ht⟩ | ⟨rfl, b', t', rfl⟩
  · dsimp only
    rw [show (200 : Int32) = nI 200 from rfl, if_pos (nI_le hm (by decide)), if_neg one_ne0, ht, Option.bind_some]
    cases b0
    · rw [if_pos (show bI false = 0 from rfl)]
      exact ⟨_, rfl⟩
    · rw [if_neg (show ¬ bI true = 0 by decide)]
      exact ⟨_, rfl⟩
  · dsimp only
    rw [if_neg (show ¬ nI 201 ≤ (200 : Int32) by decide), if_pos rfl]
    exact ⟨_, rfl⟩
theorem j52_eq {S : Int64} {o : Int32 × Int32 × (Nat → Int64)} {r c : Int32} (h : (r = 1 ∧ ∃ b0 : Bool, c = bI b0 ∧ ∃ m' r' t', o = (nI m', r', t') ∧ m' ≤ 200 ∧ m_X9_isTerm (nI m') t' S = some (bI b0)) ∨ (r = 0 ∧ ∃ r' t', o = (nI 201, r', t'))) (a b wd : Int32) (f1 f2 f3 gl : Int64) (d e g : Nat → Int32) (f : Nat → Int64) : ∃ u, m_X8_term_j52 r a b c f1 f2 f3 gl wd d e f g = some (if r = 0 then -4 else c, u) := by
  unfold m_X8_term_j52
  rcases h with ⟨rfl, b0, rfl, _⟩ | ⟨rfl, _⟩
  · rw [if_neg one_ne0, if_neg one_ne0]
    unfold m_X8_oneIf
    cases b0
    · rw [if_pos (show bI false = 0 from rfl), Option.bind_some]
      exact ⟨_, rfl⟩
    · rw [if_neg (show ¬ bI true = 0 by decide), Option.bind_some]
      exact ⟨_, rfl⟩
  · rw [if_pos rfl, if_pos rfl]
    exact ⟨_, rfl⟩
theorem what_cases {x : Int32} (h1 : ¬ x < 0) (h2 : ¬ 1 < x) : x = 0 ∨ x = 1 := by
  obtain ⟨j, hj, rfl⟩ := nI_of h1
  by_cases g : j ≤ 1
  · rcases (show j = 0 ∨ j = 1 by omega) with rfl | rfl
    · exact Or.inl rfl
    · exact Or.inr rfl
  · exact absurd (show (1 : Int32) < nI j from nI_lt (show 1 < j by omega) hj) h2
theorem agree_term {n : Nat} {v now : Nat → Int32} {tv : Nat → Nat} (hT : okT n tv) (hv : asT v tv) (hw : as21 now tv n) (hm rn fd : Int32) (f1 f2 f3 gl : Int64) (wd : Int32) (hb lb : Nat → Int32) (rows : Nat → Int64) (slots : Nat → Int32) (tm tr : Int32) (terms : Nat → Int64) (x1 : Int32) : ∃ r u u', m_X8_term (nI n) hm rn fd f1 f2 f3 gl wd v hb lb rows slots x1 = some (r, u) ∧ m_X9_term tm tr now terms x1 = some (r, u') := by
  have hn1 := hT.1
  have hn4 := hT.2.1
  by_cases h1 : x1 < 0
  · unfold m_X8_term m_X9_term
    rw [if_pos h1, in_eq, if_pos h1, Option.bind_some, if_pos rfl]
    exact ⟨_, _, _, rfl, rfl⟩
  by_cases h2 : 1 < x1
  · unfold m_X8_term m_X9_term
    rw [if_neg h1, if_pos h2, in_eq, if_neg h1, if_pos h2, Option.bind_some, if_pos rfl]
    exact ⟨_, _, _, rfl, rfl⟩
  by_cases h4 : n = 4
  · unfold m_X8_term m_X9_term
    rw [if_neg h1, if_neg h2, in_eq, if_neg h1, if_neg h2, Option.bind_some, if_neg one_ne0, size_eq hw.2, Option.bind_some, h4, if_neg (show ¬ nI 4 ≤ 3 by decide), if_pos (show nI 4 = 4 from rfl)]
    exact ⟨_, _, _, rfl, rfl⟩
  have hn3 : n ≤ 3 := by omega
  obtain ⟨s0, es, hs0⟩ := startOver7_eq hm rn f1 f2 f3 gl wd slots
  have R0 : m_X9_term tm tr now terms x1 = (if x1 = 0 then m_X9_term_j29 now x1 2 tm tr terms else m_X9_term_j29 now x1 3 tm tr terms) := by
    unfold m_X9_term
    rw [in_eq, if_neg h1, if_neg h2, Option.bind_some, if_neg one_ne0, size_eq hw.2, Option.bind_some, if_neg (show ¬ nI n = 4 from fun q => h4 ((nI_eq (show n < 2 ^ 31 by omega) (show 4 < 2 ^ 31 by decide)).mp q))]
  rcases what_cases h1 h2 with rfl | rfl
  · obtain ⟨a1, a2, a3, a4, y1, y2, y3, y4, el, l1, l2, l3, l4, p1, p2, p3, p4, pm⟩ := ML_all hn1 hn3
    obtain ⟨m, m1, t1, m2, t2, rows', slots', terms', m0, hS, eg, ec1, ec2, ec3⟩ := grow_3 (rows := rows) (terms := terms) pm hn4 (ST_0 hs0) p1 p2 p3 a4 0 fd hb lb v
    obtain ⟨r, a, b, c, d, e, f, g, o, e1, e2, e3⟩ := term_j37 (hb := hb) (lb := lb) pm hT hv hw.1 p4 hS m0 fd tr
    have em := maltsev_eq el es (eg.trans e1) (by rcases e3 with ⟨q, _⟩ | ⟨q, _⟩; exact Or.inr q; exact Or.inl q)
    obtain ⟨u, e4⟩ := j52_eq e3 a b (nI (2 * n * n)) a1 a2 a3 a4 d e g f
    obtain ⟨u', e5⟩ := j177_eq e3
    refine ⟨(if r = 0 then -4 else c), u, u', ?_, ?_⟩
    · unfold m_X8_term
      rw [if_neg h1, if_neg h2, if_pos (show nI n ≤ 3 from nI_le hn3 (by decide)), if_pos rfl, em, bd2_some]
      exact e4
    · rw [R0, if_pos rfl]
      unfold m_X9_term_j29
      rw [size_eq hw.2, Option.bind_some, Option.bind_some, if_pos rfl, letterRow_n hw.2, l4, Option.bind_some, show (2 : Int32) * nI n * nI n = nI (2 * n * n) by rw [show (2 : Int32) = nI 2 from rfl, pk_mul, pk_mul]]
      unfold m_X9_term_j61
      rw [if_pos rfl, letterRow_n hw.2, l1, Option.bind_some]
      unfold m_X9_term_j88
      rw [ec1, Option.bind_some, if_pos rfl, letterRow_n hw.2, l2, Option.bind_some]
      unfold m_X9_term_j111
      dsimp only
      rw [ec2, Option.bind_some, if_pos rfl, letterRow_n hw.2, l3, Option.bind_some]
      unfold m_X9_term_j134
      dsimp only
      rw [ec3, Option.bind_some]
      dsimp only
      rw [e2, Option.bind_some]
      exact e5
  · obtain ⟨a1, a2, a3, a4, y1, y2, y3, y4, el, l1, l2, l3, l4, p1, p2, p3, p4, pm⟩ := JL_all hn1 hn3
    obtain ⟨m, m1, t1, m2, t2, rows', slots', terms', m0, hS, eg, ec1, ec2, ec3⟩ := grow_3 (rows := rows) (terms := terms) pm hn4 (ST_0 hs0) p1 p2 p3 a4 0 fd hb lb v
    obtain ⟨r, a, b, c, d, e, f, g, o, e1, e2, e3⟩ := term_j37 (hb := hb) (lb := lb) pm hT hv hw.1 p4 hS m0 fd tr
    have em := majority_eq el es (eg.trans e1) (by rcases e3 with ⟨q, _⟩ | ⟨q, _⟩; exact Or.inr q; exact Or.inl q)
    obtain ⟨u, e4⟩ := j52_eq e3 a b (nI (3 * n * n)) a1 a2 a3 a4 d e g f
    obtain ⟨u', e5⟩ := j177_eq e3
    refine ⟨(if r = 0 then -4 else c), u, u', ?_, ?_⟩
    · unfold m_X8_term
      rw [if_neg h1, if_neg h2, if_pos (show nI n ≤ 3 from nI_le hn3 (by decide)), if_neg one_ne0, em, bd2_some]
      exact e4
    · rw [R0, if_neg one_ne0]
      unfold m_X9_term_j29
      rw [size_eq hw.2, Option.bind_some, Option.bind_some, if_neg one_ne0, letterRow_n hw.2, l4, Option.bind_some, show (3 : Int32) * nI n * nI n = nI (3 * n * n) by rw [show (3 : Int32) = nI 3 from rfl, pk_mul, pk_mul]]
      unfold m_X9_term_j61
      rw [if_neg one_ne0, letterRow_n hw.2, l1, Option.bind_some]
      unfold m_X9_term_j88
      rw [ec1, Option.bind_some, if_neg one_ne0, letterRow_n hw.2, l2, Option.bind_some]
      unfold m_X9_term_j111
      dsimp only
      rw [ec2, Option.bind_some, if_neg one_ne0, letterRow_n hw.2, l3, Option.bind_some]
      unfold m_X9_term_j134
      dsimp only
      rw [ec3, Option.bind_some]
      dsimp only
      rw [e2, Option.bind_some]
      exact e5
