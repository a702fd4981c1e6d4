/-! rows of the class beside rows of the reference -/
theorem isC_congr {W : Nat} {c d : Nat → Nat} {x : Int64} (h : isC W c x) (e : ∀ i, i < W → c i = d i) : isC W d x := by
  intro i hi
  rw [h i hi]
  by_cases q : i < 32
  · rw [if_pos q, if_pos q]
    by_cases g : i < W
    · rw [e i g]
    · rw [decide_eq_false g, Bool.false_and, Bool.false_and]
  · rw [if_neg q, if_neg q]
    by_cases g : i - 32 < W
    · rw [e _ g]
    · rw [decide_eq_false g, Bool.false_and, Bool.false_and]
theorem isR_congr {w : Nat} {c d : Nat → Nat} {x : Int64} (h : isR w c x) (e : ∀ i, i < w → c i = d i) : isR w d x := by
  intro i hi
  rw [h i hi]
  by_cases g : i / 2 < w
  · rw [e _ g]
  · rw [decide_eq_false g, Bool.false_and, Bool.false_and]
def PM (W w : Nat) (pi : Nat → Nat) : Prop := W ≤ 27 ∧ w ≤ 27 ∧ (∀ i, i < W → pi i < w) ∧ (∀ j, j < w → ∃ i, i < W ∧ pi i = j)
def RP (n W w : Nat) (pi : Nat → Nat) (x y : Int64) : Prop := ∃ t : Nat → Nat, (∀ i, i < w → t i < n) ∧ isC W (fun i => t (pi i)) x ∧ isR w t y
theorem RP_iff {n W w : Nat} {pi : Nat → Nat} (hp : PM W w pi) (h4 : n ≤ 4) {x y x' y' : Int64} (h : RP n W w pi x y) (h' : RP n W w pi x' y') : x = x' ↔ y = y' := by
  obtain ⟨t, a1, a2, a3⟩ := h
  obtain ⟨t', b1, b2, b3⟩ := h'
  obtain ⟨p1, p2, p3, p4⟩ := hp
  constructor
  · intro e
    subst e
    have k := isC_inj p1 a2 b2 (fun i hi => Nat.lt_of_lt_of_le (a1 _ (p3 i hi)) h4) (fun i hi => Nat.lt_of_lt_of_le (b1 _ (p3 i hi)) h4)
    refine isR_uniq (isR_congr a3 (fun j hj => ?_)) b3
    obtain ⟨i, hi, e⟩ := p4 j hj
    have g : t (pi i) = t' (pi i) := k i hi
    rw [e] at g
    exact g
  · intro e
    subst e
    have k := isR_inj p2 a3 b3 (fun i hi => Nat.lt_of_lt_of_le (a1 _ hi) h4) (fun i hi => Nat.lt_of_lt_of_le (b1 _ hi) h4)
    exact isC_uniq (isC_congr a2 (fun i hi => k _ (p3 i hi))) b2
def SR (n W w : Nat) (pi : Nat → Nat) (m : Nat) (rows terms : Nat → Int64) : Prop := ∀ k, k < m → RP n W w pi (rows k) (terms k)
theorem SR_mem {n W w m : Nat} {pi : Nat → Nat} {rows terms : Nat → Int64} (hp : PM W w pi) (h4 : n ≤ 4) (h : SR n W w pi m rows terms) {x y : Int64} (hxy : RP n W w pi x y) : (∃ k, k < m ∧ rows k = x) ↔ (∃ k, k < m ∧ terms k = y) := by
  constructor
  · rintro ⟨k, hk, e⟩
    exact ⟨k, hk, (RP_iff hp h4 (h k hk) hxy).mp e⟩
  · rintro ⟨k, hk, e⟩
    exact ⟨k, hk, (RP_iff hp h4 (h k hk) hxy).mpr e⟩
theorem SR_push {n W w m : Nat} {pi : Nat → Nat} {rows terms : Nat → Int64} (h : SR n W w pi m rows terms) {x y : Int64} (hxy : RP n W w pi x y) : SR n W w pi (m + 1) (vp_updL rows m x) (vp_updL terms m y) := by
  intro k hk
  by_cases e : k = m
  · subst e
    rw [pk_uLs, pk_uLs]
    exact hxy
  · rw [pk_uLn e, pk_uLn e]
    exact h k (by omega)
/-- both hold the same m rows -/
def ST (n W w : Nat) (pi : Nat → Nat) (m : Nat) (rows : Nat → Int64) (slots : Nat → Int32) (terms : Nat → Int64) : Prop := m ≤ 200 ∧ SR n W w pi m rows terms ∧ ∃ c, HT m rows slots c
def goOn (m m' : Nat) (terms terms' : Nat → Int64) : Prop := m ≤ m' ∧ ∀ k, k < m → terms' k = terms k
theorem goOn_refl {m : Nat} {terms : Nat → Int64} : goOn m m terms terms := ⟨Nat.le_refl m, fun _ _ => rfl⟩
theorem goOn_trans {m m1 m2 : Nat} {t t1 t2 : Nat → Int64} (h : goOn m m1 t t1) (g : goOn m1 m2 t1 t2) : goOn m m2 t t2 := ⟨Nat.le_trans h.1 g.1, fun k hk => by rw [g.2 k (Nat.lt_of_lt_of_le hk h.1), h.2 k hk]⟩
theorem step_add {n W w m : Nat} {pi : Nat → Nat} {rows terms : Nat → Int64} {slots : Nat → Int32} (hp : PM W w pi) (h4 : n ≤ 4) (h : ST n W w pi m rows slots terms) {x y : Int64} (hxy : RP n W w pi x y) :
    (∃ m' rows' slots' terms', m_X7_add (nI m) rows slots x = some (1, (nI m', rows', slots')) ∧ m_X9_comes (nI m) terms y = some (nI m', terms') ∧ ST n W w pi m' rows' slots' terms' ∧ goOn m m' terms terms' ∧ (∃ k, k < m' ∧ terms' k = y)) ∨
    (m = 200 ∧ ∃ u1 u2 u3 terms', m_X7_add (nI m) rows slots x = some (0, (u1, u2, u3)) ∧ m_X9_comes (nI m) terms y = some (nI 201, terms')) := by
  obtain ⟨hm, hS, c, hH⟩ := h
  have hmem := SR_mem hp h4 hS hxy
  rcases add_cases hH hm x with ⟨a1, a2⟩ | ⟨a1, a2, slots', c', a3, a4⟩ | ⟨a1, a2, a3⟩
  · left
    rcases comes_cases (rows := terms) (show m < 202 by omega) y with ⟨b1, b2⟩ | ⟨b1, b2⟩
    · exact ⟨m, rows, slots, terms, a2, b2, ⟨hm, hS, c, hH⟩, goOn_refl, b1⟩
    · exact absurd (hmem.mp a1) b1
  · left
    rcases comes_cases (rows := terms) (show m < 202 by omega) y with ⟨b1, b2⟩ | ⟨b1, b2⟩
    · exact absurd (hmem.mpr b1) a1
    · refine ⟨m + 1, _, slots', _, a3, b2, ⟨by omega, SR_push hS hxy, c', a4⟩, ⟨by omega, fun k hk => pk_uLn (by omega)⟩, ⟨m, by omega, pk_uLs⟩⟩
  · right
    rcases comes_cases (rows := terms) (show m < 202 by omega) y with ⟨b1, b2⟩ | ⟨b1, b2⟩
    · exact absurd (hmem.mpr b1) a1
    · subst a2
      exact ⟨rfl, _, _, _, _, a3, b2⟩
/-! f and g of both -/
def LB (n W w : Nat) (pi : Nat → Nat) (tv : Nat → Nat) (y : Int64) (hb lb : Nat → Int32) : Prop := ∃ t : Nat → Nat, (∀ i, i < w → t i < n) ∧ isR w t y ∧ layOk W tv (fun i => t (pi i)) 4 hb lb
theorem lay_rp {n W w : Nat} {pi tv : Nat → Nat} {v : Nat → Int32} (hp : PM W w pi) (hT : okT n tv) (hv : asT v tv) {x y : Int64} (h : RP n W w pi x y) (hb lb : Nat → Int32) : ∃ hb' lb', m_X7_layBehind (nI W) hb lb (nI n) v x = some (hb', lb') ∧ LB n W w pi tv y hb' lb' := by
  obtain ⟨t, a1, a2, a3⟩ := h
  obtain ⟨hb', lb', e, hl⟩ := layBehind_eq hT hv hp.1 a2 (fun i hi => a1 _ (hp.2.2.1 i hi)) hb lb
  exact ⟨hb', lb', e, t, a1, a3, hl⟩
theorem two_rp {n W w : Nat} {pi tv : Nat → Nat} {now : Nat → Int32} (hp : PM W w pi) (hT : okT n tv) (hw : asT now tv) {ya x y : Int64} {hb lb : Nat → Int32} (hl : LB n W w pi tv ya hb lb) (h : RP n W w pi x y) : ∃ r z, m_X7_ofTwo hb lb x = some r ∧ m_X9_fOf now ya y (nI w) = some z ∧ RP n W w pi r z := by
  obtain ⟨t, a1, a2, a3⟩ := hl
  obtain ⟨s, b1, b2, b3⟩ := h
  obtain ⟨r, e1, h1⟩ := ofTwo_eq hp.1 a3 b2 (fun i hi => b1 _ (hp.2.2.1 i hi)) hT.2.1
  obtain ⟨z, e2, h2⟩ := fOf_eq hT hw hp.2.1 a2 b3 a1 b1
  exact ⟨r, z, e1, e2, fun i => tv (4 * t i + s i), fun i hi => hT.2.2.2.1 _ _ (a1 i hi) (b1 i hi), h1, h2⟩
theorem one_rp {n W w : Nat} {pi tv : Nat → Nat} {v now : Nat → Int32} (hp : PM W w pi) (hT : okT n tv) (hv : asT v tv) (hw : asT now tv) {x y : Int64} (h : RP n W w pi x y) : ∃ r z, m_X7_ofOne (nI W) (nI n) v x = some r ∧ m_X9_gOf now y (nI w) = some z ∧ RP n W w pi r z := by
  obtain ⟨s, b1, b2, b3⟩ := h
  obtain ⟨r, e1, h1⟩ := ofOne_eq hT hv hp.1 b2 (fun i hi => b1 _ (hp.2.2.1 i hi))
  obtain ⟨z, e2, h2⟩ := gOf_eq hT hw hp.2.1 b3 b1
  exact ⟨r, z, e1, e2, fun i => tv (16 + s i), fun i hi => hT.2.2.2.2 _ (b1 i hi), h1, h2⟩
/-! what a round has made -/
def inF (now : Nat → Int32) (w m : Nat) (terms : Nat → Int64) (a b : Nat) : Prop := ∃ z k, m_X9_fOf now (terms a) (terms b) (nI w) = some z ∧ k < m ∧ terms k = z
def inG (now : Nat → Int32) (w m : Nat) (terms : Nat → Int64) (a : Nat) : Prop := ∃ z k, m_X9_gOf now (terms a) (nI w) = some z ∧ k < m ∧ terms k = z
theorem inF_on {now : Nat → Int32} {w m m' a b : Nat} {terms terms' : Nat → Int64} (ha : a < m) (hb : b < m) (g : goOn m m' terms terms') (h : inF now w m terms a b) : inF now w m' terms' a b := by
  obtain ⟨z, k, e, hk, ek⟩ := h
  exact ⟨z, k, by rw [g.2 a ha, g.2 b hb]; exact e, Nat.lt_of_lt_of_le hk g.1, by rw [g.2 k hk]; exact ek⟩
theorem inG_on {now : Nat → Int32} {w m m' a : Nat} {terms terms' : Nat → Int64} (ha : a < m) (g : goOn m m' terms terms') (h : inG now w m terms a) : inG now w m' terms' a := by
  obtain ⟨z, k, e, hk, ek⟩ := h
  exact ⟨z, k, by rw [g.2 a ha]; exact e, Nat.lt_of_lt_of_le hk g.1, by rw [g.2 k hk]; exact ek⟩
theorem bd2_some {α β ρ : Type} {a : α} {b : β} {k : α → β → Option ρ} : bd2 (some (a, b)) k = k a b := rfl
theorem bdS_inr {α β ρ : Type} {b : β} {f : α → Option ρ} {g : β → Option ρ} : bdS (some (Sum.inr b)) f g = g b := rfl
def clB (now : Nat → Int32) (w m : Nat) (terms : Nat → Int64) (K : Nat) : Prop := ∀ a, a < K → inG now w m terms a ∧ ∀ b, b < K → inF now w m terms a b
/-! the inner loop of a round -/
def postI (n W w : Nat) (pi : Nat → Nat) (now : Nat → Int32) (a b K m : Nat) (terms : Nat → Int64) (oc : (Int32 × (Int32 × (Nat → Int32) × (Nat → Int32) × (Nat → Int64) × (Nat → Int32))) ⊕ (Int32 × (Nat → Int64) × (Nat → Int32))) (o : Int32 × (Nat → Int64)) : Prop :=
  (∃ m' rows' slots' terms', oc = .inr (nI m', rows', slots') ∧ o = (nI m', terms') ∧ ST n W w pi m' rows' slots' terms' ∧ goOn m m' terms terms' ∧ ∀ b', b ≤ b' → b' < K → inF now w m' terms' a b') ∨ (∃ u terms', oc = .inl (0, u) ∧ o = (nI 201, terms'))
theorem in_full {now : Nat → Int32} {w K a b M : Nat} {terms : Nat → Int64} (hM : 0 < M) : lp (fun q : (Int32 × Int32 × (Nat → Int64)) => m_X9_goesRound_s40 (nI K) now (nI w) (nI a) q.1 q.2.1 q.2.2) M (nI b, nI 201, terms) = some (nI 201, terms) := by
  obtain ⟨M, rfl⟩ : ∃ q, M = q + 1 := ⟨M - 1, by omega⟩
  refine lp_exit ?_
  show m_X9_goesRound_s40 (nI K) now (nI w) (nI a) (nI b) (nI 201) terms = _
  unfold m_X9_goesRound_s40
  rw [if_pos (show (200 : Int32) < nI 201 by decide)]
  split <;> rfl
theorem inner_eq {n W w K a : Nat} {pi tv : Nat → Nat} {now : Nat → Int32} (hp : PM W w pi) (hT : okT n tv) (hw : asT now tv) (hK : K ≤ 200) (ha : a < K) {hb lb : Nat → Int32} : ∀ d b N M m rows slots terms, b + d = K → d < N → d < M → K ≤ m → ST n W w pi m rows slots terms → LB n W w pi tv (terms a) hb lb →
    ∃ oc o, lp (fun q : (Int32 × Int32 × (Nat → Int64) × (Nat → Int32)) => m_X7_makeRound_s72 (nI K) hb lb q.1 q.2.1 q.2.2.1 q.2.2.2) N (nI b, nI m, rows, slots) = some oc ∧ lp (fun q : (Int32 × Int32 × (Nat → Int64)) => m_X9_goesRound_s40 (nI K) now (nI w) (nI a) q.1 q.2.1 q.2.2) M (nI b, nI m, terms) = some o ∧ postI n W w pi now a b K m terms oc o := by
  intro d
  induction d with
  | zero =>
    intro b N M m rows slots terms hbd hN hM hKm hS hL
    obtain ⟨N, rfl⟩ : ∃ q, N = q + 1 := ⟨N - 1, by omega⟩
    obtain ⟨M, rfl⟩ : ∃ q, M = q + 1 := ⟨M - 1, by omega⟩
    refine ⟨.inr (nI m, rows, slots), (nI m, terms), lp_exit ?_, lp_exit ?_, Or.inl ⟨m, rows, slots, terms, rfl, rfl, hS, goOn_refl, fun b' h1 h2 => by omega⟩⟩
    · show m_X7_makeRound_s72 (nI K) hb lb (nI b) (nI m) rows slots = _
      unfold m_X7_makeRound_s72
      rw [if_pos (nI_le (show K ≤ b by omega) (by omega))]
    · show m_X9_goesRound_s40 (nI K) now (nI w) (nI a) (nI b) (nI m) terms = _
      unfold m_X9_goesRound_s40
      rw [if_pos (nI_le (show K ≤ b by omega) (by omega))]
  | succ d ih =>
    intro b N M m rows slots terms hbd hN hM hKm hS hL
    obtain ⟨N, rfl⟩ : ∃ q, N = q + 1 := ⟨N - 1, by omega⟩
    obtain ⟨M, rfl⟩ : ∃ q, M = q + 1 := ⟨M - 1, by omega⟩
    have hm := hS.1
    obtain ⟨r, z, e1, e2, hrz⟩ := two_rp hp hT hw hL (hS.2.1 b (by omega))
    have C0 : ∀ r' u1 u2 u3, m_X7_add (nI m) rows slots r = some (r', (u1, u2, u3)) → m_X7_makeRound_s72 (nI K) hb lb (nI b) (nI m) rows slots = (if r' = 0 then some (.inr (.inl (0, (u1, hb, lb, u2, u3)))) else some (.inl (nI (b + 1), u1, u2, u3))) := by
      intro r' u1 u2 u3 hu
      unfold m_X7_makeRound_s72
      rw [if_neg (nI_ge (show b < K by omega) (by omega)), rd_eq rfl (show b < 200 by omega) (by decide), e1, Option.bind_some, hu, bd2_some, nI_1] <;> rfl
    have R0 : ∀ u1 u2, m_X9_comes (nI m) terms z = some (u1, u2) → m_X9_goesRound_s40 (nI K) now (nI w) (nI a) (nI b) (nI m) terms = some (.inl (nI (b + 1), u1, u2)) := by
      intro u1 u2 hu
      unfold m_X9_goesRound_s40
      rw [if_neg (nI_ge (show b < K by omega) (by omega)), show (200 : Int32) = nI 200 from rfl, if_neg (nI_nlt (show m ≤ 200 by omega) (by decide)), rd_eq rfl (show a < 202 by omega) (by decide), rd_eq rfl (show b < 202 by omega) (by decide), e2, Option.bind_some, hu, Option.bind_some, nI_1]
    rcases step_add hp hT.2.1 hS hrz with ⟨m1, rows1, slots1, terms1, g1, g2, hS1, hg, k, hk, ek⟩ | ⟨h200, u1, u2, u3, terms1, g1, g2⟩
    · have c1 := C0 _ _ _ _ g1
      rw [if_neg one_ne0] at c1
      have r1 := R0 _ _ g2
      have hm1 := hg.1
      obtain ⟨oc, o, h1, h2, h3⟩ := ih (b + 1) N M m1 rows1 slots1 terms1 (by omega) (by omega) (by omega) (by omega) hS1 (by rw [hg.2 a (by omega)]; exact hL)
      refine ⟨oc, o, ?_, ?_, ?_⟩
      · rw [lp_succ (s := (nI b, nI m, rows, slots)) c1]
        exact h1
      · rw [lp_succ (s := (nI b, nI m, terms)) r1]
        exact h2
      · rcases h3 with ⟨m', rows', slots', terms', q1, q2, q3, q4, q5⟩ | h3
        · left
          refine ⟨m', rows', slots', terms', q1, q2, q3, goOn_trans hg q4, fun b' p1 p2 => ?_⟩
          by_cases g : b' = b
          · subst g
            exact inF_on (show a < m1 by omega) (show b' < m1 by omega) q4 ⟨z, k, by rw [hg.2 a (by omega), hg.2 b' (by omega)]; exact e2, hk, ek⟩
          · exact q5 b' (by omega) p2
        · exact Or.inr h3
    · have c1 := C0 _ _ _ _ g1
      rw [if_pos rfl] at c1
      have r1 := R0 _ _ g2
      refine ⟨.inl (0, (u1, hb, lb, u2, u3)), (nI 201, terms1), lp_exit c1, ?_, Or.inr ⟨_, _, rfl, rfl⟩⟩
      rw [lp_succ (s := (nI b, nI m, terms)) r1]
      exact in_full (by omega)
/-- what is there already changes nothing -/
theorem skip_eq {w K a m : Nat} {now : Nat → Int32} {terms : Nat → Int64} (hm : m ≤ 200) (ha : a < K) (hKm : K ≤ m) : ∀ d b M, b + d ≤ K → (∀ b', b ≤ b' → b' < b + d → inF now w m terms a b') → lp (fun q : (Int32 × Int32 × (Nat → Int64)) => m_X9_goesRound_s40 (nI K) now (nI w) (nI a) q.1 q.2.1 q.2.2) (M + d) (nI b, nI m, terms) = lp (fun q : (Int32 × Int32 × (Nat → Int64)) => m_X9_goesRound_s40 (nI K) now (nI w) (nI a) q.1 q.2.1 q.2.2) M (nI (b + d), nI m, terms) := by
  intro d
  induction d with
  | zero =>
    intro b M _ _
    rfl
  | succ d ih =>
    intro b M hbd hin
    obtain ⟨z, k, e, hk, ek⟩ := hin b (by omega) (by omega)
    have hst : m_X9_goesRound_s40 (nI K) now (nI w) (nI a) (nI b) (nI m) terms = some (.inl (nI (b + 1), nI m, terms)) := by
      unfold m_X9_goesRound_s40
      rw [if_neg (nI_ge (show b < K by omega) (by omega)), show (200 : Int32) = nI 200 from rfl, if_neg (nI_nlt (show m ≤ 200 by omega) (by decide)), rd_eq rfl (show a < 202 by omega) (by decide), rd_eq rfl (show b < 202 by omega) (by decide), e, Option.bind_some]
      rcases comes_cases (rows := terms) (show m < 202 by omega) z with ⟨b1, b2⟩ | ⟨b1, b2⟩
      · rw [b2, Option.bind_some, nI_1]
      · exact absurd ⟨k, hk, ek⟩ b1
    rw [show M + (d + 1) = (M + d) + 1 by omega, lp_succ (s := (nI b, nI m, terms)) hst, ih (b + 1) M (by omega) (fun b' h1 h2 => hin b' (by omega) (by omega)), show b + 1 + d = b + (d + 1) by omega]
