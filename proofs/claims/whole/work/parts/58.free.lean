/-! promises 16 and 17 -/
theorem fill_eq (s : Nat → Int32) : ∃ s0, m_J7_fill_53178 s 0 = some s0 ∧ ∀ j, j < 512 → s0 j = 0 := by
  have e : lp (fun q : (Int32 × (Nat → Int32)) => m_J7_fill_53178_s5 0 q.1 q.2) 1000 (0, s) = some (cpF (fun _ => 0) 0 s 512) := by
    refine lp_copy (fun _ => 0) 0 512 (by decide) s (fun k f hk => ?_) (fun f => ?_)
    · show m_J7_fill_53178_s5 0 (nI k) f = _
      unfold m_J7_fill_53178_s5
      rw [show (512 : Int32) = nI 512 from rfl, if_neg (nI_ge hk (by decide)), wrI_eq rfl hk (by decide), nI_1, Nat.zero_add]
    · show m_J7_fill_53178_s5 0 (nI 512) f = _
      unfold m_J7_fill_53178_s5
      rw [if_pos (show (512 : Int32) ≤ nI 512 by decide)]
  refine ⟨cpF (fun _ => 0) 0 s 512, ?_, fun j hj => ?_⟩
  · unfold m_J7_fill_53178
    rw [e, Option.bind_some]
  · have h := cpF_in (src := fun _ => (0 : Int32)) (off := 0) (f := s) 512 j hj
    rw [Nat.zero_add] at h
    exact h
theorem startOver7_eq (a b : Int32) (c d e f : Int64) (g : Int32) (s : Nat → Int32) : ∃ s0, m_X7_startOver a b c d e f g s = some (0, 0, 0, 0, 0, 0, 0, s0) ∧ ∀ j, j < 512 → s0 j = 0 := by
  obtain ⟨s0, h1, h2⟩ := fill_eq s
  refine ⟨s0, ?_, h2⟩
  unfold m_X7_startOver
  rw [h1, Option.bind_some]
theorem ST_0 {n W w : Nat} {pi : Nat → Nat} {rows terms : Nat → Int64} {s0 : Nat → Int32} (h : ∀ j, j < 512 → s0 j = 0) : ST n W w pi 0 rows s0 terms := by
  refine ⟨by omega, fun k hk => absurd hk (by omega), fun _ => 0, fun j hj => ⟨h j hj, Nat.le_refl _⟩, fun j _ g => absurd rfl g, fun k g => absurd g (by omega), fun j j' _ _ g => absurd rfl g⟩
theorem add_ok {n W w m : Nat} {pi : Nat → Nat} {rows terms : Nat → Int64} {slots : Nat → Int32} (hp : PM W w pi) (h4 : n ≤ 4) (h : ST n W w pi m rows slots terms) (hm2 : m < 200) {x y : Int64} (hxy : RP n W w pi x y) :
    ∃ m' rows' slots' terms', m_X7_add (nI m) rows slots x = some (1, (nI m', rows', slots')) ∧ m_X9_comes (nI m) terms y = some (nI m', terms') ∧ ST n W w pi m' rows' slots' terms' ∧ 0 < m' ∧ m' ≤ m + 1 := by
  obtain ⟨hm, hS, c, hH⟩ := h
  have hmem := SR_mem hp h4 hS hxy
  rcases add_cases hH hm x with ⟨a1, a2⟩ | ⟨a1, a2, slots', c', a3, a4⟩ | ⟨a1, a2, a3⟩
  · rcases comes_cases (rows := terms) (show m < 202 by omega) y with ⟨b1, b2⟩ | ⟨b1, b2⟩
    · obtain ⟨k, hk, _⟩ := b1
      exact ⟨m, rows, slots, terms, a2, b2, ⟨hm, hS, c, hH⟩, by omega, by omega⟩
    · exact absurd (hmem.mp a1) b1
  · rcases comes_cases (rows := terms) (show m < 202 by omega) y with ⟨b1, b2⟩ | ⟨b1, b2⟩
    · exact absurd (hmem.mpr b1) a1
    · exact ⟨m + 1, _, slots', _, a3, b2, ⟨by omega, SR_push hS hxy, c', a4⟩, by omega, by omega⟩
  · omega
theorem grow_1 {n W w : Nat} {pi : Nat → Nat} {rows terms : Nat → Int64} {s0 : Nat → Int32} (hp : PM W w pi) (h4 : n ≤ 4) (hS : ST n W w pi 0 rows s0 terms) {x1 y1 : Int64} (h1 : RP n W w pi x1 y1) (x2 x3 G : Int64) (rn fd : Int32) (hb lb v : Nat → Int32) : ∃ m rows' slots' terms', 0 < m ∧ ST n W w pi m rows' slots' terms' ∧ m_X7_grow 0 rn fd x1 x2 x3 G (nI W) hb lb rows s0 (nI n) v 1 = m_X7_grow_j37 G (nI W) (nI n) v (nI m) rn fd hb lb rows' slots' ∧ m_X9_comes 0 terms y1 = some (nI m, terms') := by
  obtain ⟨m1, r1, s1, t1, a1, b1, hS1, p1, q1⟩ := add_ok hp h4 hS (by decide) h1
  rw [show nI 0 = 0 from rfl] at a1 b1
  refine ⟨m1, r1, s1, t1, p1, hS1, ?_, b1⟩
  unfold m_X7_grow m_X7_grow_j23
  rw [a1, bd2_some, if_pos (show (1 : Int32) ≤ 1 by decide), if_pos (show (1 : Int32) ≤ 2 by decide)]
theorem grow_2 {n W w : Nat} {pi : Nat → Nat} {rows terms : Nat → Int64} {s0 : Nat → Int32} (hp : PM W w pi) (h4 : n ≤ 4) (hS : ST n W w pi 0 rows s0 terms) {x1 y1 x2 y2 : Int64} (h1 : RP n W w pi x1 y1) (h2 : RP n W w pi x2 y2) (x3 G : Int64) (rn fd : Int32) (hb lb v : Nat → Int32) : ∃ m m1 t1 rows' slots' terms', 0 < m ∧ ST n W w pi m rows' slots' terms' ∧ m_X7_grow 0 rn fd x1 x2 x3 G (nI W) hb lb rows s0 (nI n) v 2 = m_X7_grow_j37 G (nI W) (nI n) v (nI m) rn fd hb lb rows' slots' ∧ m_X9_comes 0 terms y1 = some (nI m1, t1) ∧ m_X9_comes (nI m1) t1 y2 = some (nI m, terms') := by
  obtain ⟨m1, r1, s1, t1, a1, b1, hS1, p1, q1⟩ := add_ok hp h4 hS (by decide) h1
  obtain ⟨m2, r2, s2, t2, a2, b2, hS2, p2, q2⟩ := add_ok hp h4 hS1 (by omega) h2
  rw [show nI 0 = 0 from rfl] at a1 b1
  refine ⟨m2, m1, t1, r2, s2, t2, p2, hS2, ?_, b1, b2⟩
  unfold m_X7_grow m_X7_grow_j23
  rw [a1, bd2_some, if_neg (show ¬ (2 : Int32) ≤ 1 by decide)]
  dsimp only
  rw [a2, bd2_some, if_pos (show (2 : Int32) ≤ 2 by decide)]
theorem grow_3 {n W w : Nat} {pi : Nat → Nat} {rows terms : Nat → Int64} {s0 : Nat → Int32} (hp : PM W w pi) (h4 : n ≤ 4) (hS : ST n W w pi 0 rows s0 terms) {x1 y1 x2 y2 x3 y3 : Int64} (h1 : RP n W w pi x1 y1) (h2 : RP n W w pi x2 y2) (h3 : RP n W w pi x3 y3) (G : Int64) (rn fd : Int32) (hb lb v : Nat → Int32) : ∃ m m1 t1 m2 t2 rows' slots' terms', 0 < m ∧ ST n W w pi m rows' slots' terms' ∧ m_X7_grow 0 rn fd x1 x2 x3 G (nI W) hb lb rows s0 (nI n) v 3 = m_X7_grow_j37 G (nI W) (nI n) v (nI m) rn fd hb lb rows' slots' ∧ m_X9_comes 0 terms y1 = some (nI m1, t1) ∧ m_X9_comes (nI m1) t1 y2 = some (nI m2, t2) ∧ m_X9_comes (nI m2) t2 y3 = some (nI m, terms') := by
  obtain ⟨m1, r1, s1, t1, a1, b1, hS1, p1, q1⟩ := add_ok hp h4 hS (by decide) h1
  obtain ⟨m2, r2, s2, t2, a2, b2, hS2, p2, q2⟩ := add_ok hp h4 hS1 (by omega) h2
  obtain ⟨m3, r3, s3, t3, a3, b3, hS3, p3, q3⟩ := add_ok hp h4 hS2 (by omega) h3
  rw [show nI 0 = 0 from rfl] at a1 b1
  refine ⟨m3, m1, t1, m2, t2, r3, s3, t3, p3, hS3, ?_, b1, b2, b3⟩
  unfold m_X7_grow m_X7_grow_j23
  rw [a1, bd2_some, if_neg (show ¬ (3 : Int32) ≤ 1 by decide)]
  dsimp only
  rw [a2, bd2_some, if_neg (show ¬ (3 : Int32) ≤ 2 by decide)]
  dsimp only
  rw [a3, bd2_some]
theorem free_j37 {n W w m : Nat} {pi tv : Nat → Nat} {v now hb lb slots : Nat → Int32} {rows terms : Nat → Int64} (hp : PM W w pi) (hT : okT n tv) (hv : asT v tv) (hw : asT now tv) (hS : ST n W w pi m rows slots terms) (hm0 : 0 < m) (fd : Int32) : ∃ r a b c d e f g o, m_X7_grow_j37 (-1 : Int64) (nI W) (nI n) v (nI m) 0 fd hb lb rows slots = some (r, (a, b, c, d, e, f, g)) ∧ lp (fun q : (Int32 × Int32 × (Nat → Int64)) => m_X9_free_s121 now (nI w) q.1 q.2.1 q.2.2) 1000 (nI m, 0, terms) = some o ∧ ((r = 1 ∧ ∃ m' t', a = nI m' ∧ o = (nI m', b, t') ∧ m' ≤ 200) ∨ (r = 0 ∧ ∃ b' t', o = (nI 201, b', t'))) := by
  obtain ⟨oc, o, h1, h2, h3⟩ := free_loop hp hT hv hw 201 1000 1000 0 0 m 0 fd hb lb rows slots terms (by omega) (by decide) (by decide) hm0 (by omega) hS (fun a ha => absurd ha (by omega))
  rw [show nI 0 = 0 from rfl] at h1
  unfold m_X7_grow_j37
  rw [h1]
  rcases h3 with ⟨m', rd', fd', u, t', q1, q2, q3⟩ | ⟨u, rd', t', q1, q2⟩
  · subst q1
    obtain ⟨d, e, f, g⟩ := u
    exact ⟨1, nI m', rd', fd', d, e, f, g, o, rfl, h2, Or.inl ⟨rfl, m', t', rfl, q2, q3⟩⟩
  · subst q1
    obtain ⟨a, b, c, d, e, f, g⟩ := u
    exact ⟨0, a, b, c, d, e, f, g, o, rfl, h2, Or.inr ⟨rfl, rd', t', q2⟩⟩
theorem makeFree_eq {n : Nat} {x1 x2 : Int64} {k r a b c hm rn fd wd : Int32} {f1 f2 f3 gl : Int64} {s0 hb lb slots v d e g : Nat → Int32} {rows f : Nat → Int64} (el : lp (fun q : (Int32 × Int64 × Int64 × Int64 × Int64 × Int32) => m_X7_makeFree_s6 (nI n) q.1 q.2.1 q.2.2.1 q.2.2.2.1 q.2.2.2.2.1 q.2.2.2.2.2) 1000 (0, 0, 0, 0, 0, 0) = some (x1, x2, 0, 0, nI (n * n))) (es : m_X7_startOver hm rn f1 f2 f3 gl wd slots = some (0, 0, 0, 0, 0, 0, 0, s0)) (hg : m_X7_grow 0 0 fd x1 x2 0 (-1 : Int64) (nI (n * n)) hb lb rows s0 (nI n) v k = some (r, (a, b, c, d, e, f, g))) (hr : r = 0 ∨ r = 1) : m_X7_makeFree hm rn fd f1 f2 f3 gl wd hb lb rows slots (nI n) v k = some (r, (a, b, c, x1, x2, 0, (-1 : Int64), nI (n * n), d, e, f, g)) := by
  unfold m_X7_makeFree
  rw [es, Option.bind_some]
  dsimp only
  rw [el, Option.bind_some]
  dsimp only
  rw [hg, bd2_some, gd_t hr]
theorem letterRow_n {now : Nat → Int32} {n : Nat} (hz : now 20 = nI n) : m_X9_letterRow now = m_X9_letterRow (fun _ => nI n) := by
  funext a b
  unfold m_X9_letterRow
  rw [size_eq hz, size_eq (v := fun _ => nI n) rfl]
theorem s87_n {now : Nat → Int32} {n : Nat} (hz : now 20 = nI n) : m_X9_free_s87 now = m_X9_free_s87 (fun _ => nI n) := by
  funext a b
  unfold m_X9_free_s87
  rw [size_eq hz, size_eq (v := fun _ => nI n) rfl]
theorem rank_cases {x : Int32} (h1 : ¬ x < 1) (h2 : ¬ 2 < x) : x = 1 ∨ x = 2 := by
  have h0 : ¬ x < 0 := fun q => h1 (by
    rw [Int32.lt_iff_toInt_lt] at q ⊢
    have e0 : (0 : Int32).toInt = 0 := rfl
    have e1 : (1 : Int32).toInt = 1 := rfl
    omega)
  obtain ⟨j, hj, rfl⟩ := nI_of h0
  by_cases g : j ≤ 2
  · rcases (show j = 0 ∨ j = 1 ∨ j = 2 by omega) with rfl | rfl | rfl
    · exact absurd (by decide) h1
    · exact Or.inl rfl
    · exact Or.inr rfl
  · exact absurd (show (2 : Int32) < nI j from nI_lt (show 2 < j by omega) hj) h2
theorem j152_eq {x2 : Int32} {o : Int32 × Int32 × (Nat → Int64)} {r a b : Int32} (h : (r = 1 ∧ ∃ m' t', a = nI m' ∧ o = (nI m', b, t') ∧ m' ≤ 200) ∨ (r = 0 ∧ ∃ b' t', o = (nI 201, b', t'))) : ∃ u', m_X9_free_j152 x2 o.1 o.2.1 o.2.2 = some (if r = 0 then -4 else if x2 = 0 then a else b, u') := by
  unfold m_X9_free_j152
  rcases h with ⟨rfl, m', t', rfl, rfl, hm⟩ | ⟨rfl, b', t', rfl⟩
  · dsimp only
    rw [show (200 : Int32) = nI 200 from rfl, if_pos (nI_le hm (by decide)), if_neg one_ne0]
    by_cases q : x2 = 0
    · rw [if_pos q, if_pos q]
      exact ⟨_, rfl⟩
    · rw [if_neg q, if_neg q]
      exact ⟨_, rfl⟩
  · dsimp only
    rw [if_neg (show ¬ nI 201 ≤ (200 : Int32) by decide), if_pos rfl]
    exact ⟨_, rfl⟩
theorem free8_eq {sz hm rn fd wd x1 x2 r a b c wd' : Int32} {f1 f2 f3 gl g1 g2 g3 g4 : Int64} {v hb lb slots d e g : Nat → Int32} {rows f : Nat → Int64} (h1 : ¬ x1 < 1) (h2 : ¬ 2 < x1) (h3 : ¬ x2 < 0) (h4 : x2 ≤ 1) (hg : m_X7_makeFree hm rn fd f1 f2 f3 gl wd hb lb rows slots sz v x1 = some (r, (a, b, c, g1, g2, g3, g4, wd', d, e, f, g))) : ∃ u, m_X8_free sz hm rn fd f1 f2 f3 gl wd v hb lb rows slots x1 x2 = some (if r = 0 then -4 else if x2 = 0 then a else b, u) := by
  unfold m_X8_free
  rw [if_neg h1, if_neg h2, if_neg h3, if_pos h4, hg, bd2_some]
  by_cases q : r = 0
  · rw [if_pos q, if_pos q]
    exact ⟨_, rfl⟩
  · rw [if_neg q, if_neg q]
    by_cases q2 : x2 = 0
    · rw [if_pos q2, if_pos q2]
      exact ⟨_, rfl⟩
    · rw [if_neg q2, if_neg q2]
      exact ⟨_, rfl⟩
theorem agree_free {n : Nat} {v now : Nat → Int32} {tv : Nat → Nat} (hT : okT n tv) (hv : asT v tv) (hw : as21 now tv n) (hm rn fd : Int32) (f1 f2 f3 gl : Int64) (wd : Int32) (hb lb : Nat → Int32) (rows : Nat → Int64) (slots : Nat → Int32) (tm tr : Int32) (terms : Nat → Int64) (x1 x2 : Int32) : ∃ r u u', m_X8_free (nI n) hm rn fd f1 f2 f3 gl wd v hb lb rows slots x1 x2 = some (r, u) ∧ m_X9_free tm tr now terms x1 x2 = some (r, u') := by
  by_cases h1 : x1 < 1
  · unfold m_X8_free m_X9_free
    rw [if_pos h1, in_eq, if_pos h1, Option.bind_some, if_pos rfl]
    exact ⟨_, _, _, rfl, rfl⟩
  by_cases h2 : 2 < x1
  · unfold m_X8_free m_X9_free
    rw [if_neg h1, if_pos h2, in_eq, if_neg h1, if_pos h2, Option.bind_some, if_pos rfl]
    exact ⟨_, _, _, rfl, rfl⟩
  by_cases h3 : x2 < 0
  · unfold m_X8_free m_X9_free
    rw [if_neg h1, if_neg h2, if_pos h3, in_eq, if_neg h1, if_neg h2, Option.bind_some, if_neg one_ne0, in_eq, if_pos h3, Option.bind_some, if_pos rfl]
    exact ⟨_, _, _, rfl, rfl⟩
  by_cases h4 : x2 ≤ 1
  · have h5 : ¬ 1 < x2 := fun q => by
      rw [Int32.lt_iff_toInt_lt] at q
      rw [Int32.le_iff_toInt_le] at h4
      omega
    obtain ⟨s0, es, hs0⟩ := startOver7_eq hm rn f1 f2 f3 gl wd slots
    obtain ⟨a1, a2, y0, y1, y2, el, l0, l1, l2, p0, p1, p2, pm0, pm1⟩ := FL_all hT.1 hT.2.1
    have R0 : m_X9_free tm tr now terms x1 x2 = (if x1 = 1 then m_X9_free_j42 now x1 x2 (nI n) tm tr terms else m_X9_free_j42 now x1 x2 (nI n * nI n) tm tr terms) := by
      unfold m_X9_free
      rw [in_eq, if_neg h1, if_neg h2, Option.bind_some, if_neg one_ne0, in_eq, if_neg h3, if_neg h5, Option.bind_some, if_neg one_ne0, size_eq hw.2, Option.bind_some, Option.bind_some, Option.bind_some]
    rcases rank_cases h1 h2 with rfl | rfl
    · obtain ⟨m, rows', slots', terms', m0, hS, eg, ec⟩ := grow_1 (rows := rows) (terms := terms) pm0 hT.2.1 (ST_0 hs0) p0 a2 0 (-1) 0 fd hb lb v
      obtain ⟨r, a, b, c, d, e, f, g, o, e1, e2, e3⟩ := free_j37 (hb := hb) (lb := lb) pm0 hT hv hw.1 hS m0 fd
      obtain ⟨u, e4⟩ := free8_eq (x2 := x2) h1 h2 h3 h4 (makeFree_eq el es (eg.trans e1) (by rcases e3 with ⟨q, _⟩ | ⟨q, _⟩; exact Or.inr q; exact Or.inl q))
      obtain ⟨u', e5⟩ := j152_eq (x2 := x2) e3
      refine ⟨_, u, u', e4, ?_⟩
      rw [R0, if_pos rfl]
      unfold m_X9_free_j42 m_X9_free_j121
      rw [if_neg (show ¬ (1 : Int32) = 2 by decide), s87_n hw.2, l0, Option.bind_some, ec, Option.bind_some]
      dsimp only
      rw [e2, Option.bind_some]
      exact e5
    · obtain ⟨m, m1, t1, rows', slots', terms', m0, hS, eg, ec1, ec2⟩ := grow_2 (rows := rows) (terms := terms) pm1 hT.2.1 (ST_0 hs0) p1 p2 0 (-1) 0 fd hb lb v
      obtain ⟨r, a, b, c, d, e, f, g, o, e1, e2, e3⟩ := free_j37 (hb := hb) (lb := lb) pm1 hT hv hw.1 hS m0 fd
      obtain ⟨u, e4⟩ := free8_eq (x2 := x2) h1 h2 h3 h4 (makeFree_eq el es (eg.trans e1) (by rcases e3 with ⟨q, _⟩ | ⟨q, _⟩; exact Or.inr q; exact Or.inl q))
      obtain ⟨u', e5⟩ := j152_eq (x2 := x2) e3
      refine ⟨_, u, u', e4, ?_⟩
      rw [R0, if_neg (show ¬ (2 : Int32) = 1 by decide), pk_mul]
      unfold m_X9_free_j42 m_X9_free_j121
      rw [if_pos rfl, letterRow_n hw.2, l1, Option.bind_some, ec1, Option.bind_some, l2, Option.bind_some]
      dsimp only
      rw [ec2, Option.bind_some]
      dsimp only
      rw [e2, Option.bind_some]
      exact e5
  · have h5 : 1 < x2 := by
      rw [Int32.lt_iff_toInt_lt]
      rw [Int32.le_iff_toInt_le] at h4
      omega
    unfold m_X8_free m_X9_free
    rw [if_neg h1, if_neg h2, if_neg h3, if_neg h4, in_eq, if_neg h1, if_neg h2, Option.bind_some, if_neg one_ne0, in_eq, if_neg h3, if_pos h5, Option.bind_some, if_pos rfl]
    exact ⟨_, _, _, rfl, rfl⟩
