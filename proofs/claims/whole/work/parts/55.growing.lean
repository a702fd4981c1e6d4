/-! a whole round -/
def postO (n W w : Nat) (pi : Nat → Nat) (now : Nat → Int32) (K m : Nat) (terms : Nat → Int64) (oc : (Int32 × (Int32 × (Nat → Int32) × (Nat → Int32) × (Nat → Int64) × (Nat → Int32))) ⊕ (Int32 × (Nat → Int32) × (Nat → Int32) × (Nat → Int64) × (Nat → Int32))) (o : Int32 × (Nat → Int64)) : Prop :=
  (∃ m' hb' lb' rows' slots' terms', oc = .inr (nI m', hb', lb', rows', slots') ∧ o = (nI m', terms') ∧ ST n W w pi m' rows' slots' terms' ∧ goOn m m' terms terms' ∧ clB now w m' terms' K) ∨ (∃ u terms', oc = .inl (0, u) ∧ o = (nI 201, terms'))
theorem out_full {now : Nat → Int32} {w K a M : Nat} {terms : Nat → Int64} (hM : 0 < M) : lp (fun q : (Int32 × Int32 × (Nat → Int64)) => m_X9_goesRound_s7 (nI K) now (nI w) q.1 q.2.1 q.2.2) M (nI a, nI 201, terms) = some (nI 201, terms) := by
  obtain ⟨M, rfl⟩ : ∃ q, M = q + 1 := ⟨M - 1, by omega⟩
  refine lp_exit ?_
  show m_X9_goesRound_s7 (nI K) now (nI w) (nI a) (nI 201) terms = _
  unfold m_X9_goesRound_s7
  rw [if_pos (show (200 : Int32) < nI 201 by decide)]
  split <;> rfl
/-- one turn of the outer loop -/
def postT (n W w : Nat) (pi : Nat → Nat) (now : Nat → Int32) (a K m : Nat) (terms : Nat → Int64) (oc : Option ((Int32 × Int32 × (Nat → Int32) × (Nat → Int32) × (Nat → Int64) × (Nat → Int32)) ⊕ ((Int32 × (Int32 × (Nat → Int32) × (Nat → Int32) × (Nat → Int64) × (Nat → Int32))) ⊕ (Int32 × (Nat → Int32) × (Nat → Int32) × (Nat → Int64) × (Nat → Int32))))) (o : Option ((Int32 × Int32 × (Nat → Int64)) ⊕ (Int32 × (Nat → Int64)))) : Prop :=
  (∃ m' hb' lb' rows' slots' terms', oc = some (.inl (nI (a + 1), nI m', hb', lb', rows', slots')) ∧ o = some (.inl (nI (a + 1), nI m', terms')) ∧ ST n W w pi m' rows' slots' terms' ∧ goOn m m' terms terms' ∧ inG now w m' terms' a ∧ ∀ b, b < K → inF now w m' terms' a b) ∨ (∃ u terms', oc = some (.inr (.inl (0, u))) ∧ o = some (.inl (nI (a + 1), nI 201, terms')))
theorem turn_eq {n W w K B a m : Nat} {pi tv : Nat → Nat} {v now hb lb slots : Nat → Int32} {rows terms : Nat → Int64} (hp : PM W w pi) (hT : okT n tv) (hv : asT v tv) (hw : asT now tv) (hK : K ≤ 200) (hB : B ≤ K) (ha : a < K) (hKm : K ≤ m) (hS : ST n W w pi m rows slots terms) (hc : clB now w m terms B) :
    postT n W w pi now a K m terms (m_X7_makeRound_s14 (nI W) (nI n) v (nI B) (nI K) (nI a) (nI m) hb lb rows slots) (m_X9_goesRound_s7 (nI K) now (nI w) (nI a) (nI m) terms) := by
  have hm := hS.1
  have hrp := hS.2.1 a (by omega)
  obtain ⟨hb1, lb1, e1, hL⟩ := lay_rp hp hT hv hrp hb lb
  obtain ⟨r, z, e2, e3, hrz⟩ := one_rp hp hT hv hw hrp
  unfold m_X7_makeRound_s14 m_X9_goesRound_s7
  rw [if_neg (nI_ge ha (by omega)), rd_eq rfl (show a < 200 by omega) (by decide), e1, Option.bind_some, if_neg (nI_ge ha (by omega)), show (200 : Int32) = nI 200 from rfl, if_neg (nI_nlt (show m ≤ 200 by omega) (by decide)), rd_eq rfl (show a < 202 by omega) (by decide), e3, Option.bind_some]
  by_cases haB : a < B
  · -- nothing of this row's own, and only with later ones
    obtain ⟨⟨z', k, ez, hk, ek⟩, hf⟩ := hc a haB
    have hz : z' = z := by rw [e3] at ez; exact (Option.some.inj ez).symm
    subst hz
    have hcm : m_X9_comes (nI m) terms z' = some (nI m, terms) := by
      rcases comes_cases (rows := terms) (show m < 202 by omega) z' with ⟨b1, b2⟩ | ⟨b1, b2⟩
      · exact b2
      · exact absurd ⟨k, hk, ek⟩ b1
    have hsk := skip_eq (now := now) (w := w) (terms := terms) hm ha hKm B 0 (1000 - B) (by omega) (fun b' _ h2 => hf b' (by omega))
    rw [show 1000 - B + B = 1000 by omega, show nI 0 = 0 from rfl, Nat.zero_add] at hsk
    obtain ⟨oc, o, h1, h2, h3⟩ := inner_eq (a := a) hp hT hw hK ha (hb := hb1) (lb := lb1) (K - B) B 1000 (1000 - B) m rows slots terms (by omega) (by omega) (by omega) hKm hS hL
    rw [if_pos (nI_lt haB (by omega)), hcm, Option.bind_some]
    dsimp only
    rw [hsk, h2, Option.bind_some]
    unfold m_X7_makeRound_j59 m_X7_makeRound_j70
    rw [if_neg (nI_ge haB (by omega)), h1]
    rcases h3 with ⟨m', rows', slots', terms', q1, q2, q3, q4, q5⟩ | ⟨u, terms', q1, q2⟩
    · subst q1
      subst q2
      left
      refine ⟨m', hb1, lb1, rows', slots', terms', ?_, ?_, q3, q4, inG_on (by omega) q4 ⟨z', k, e3, hk, ek⟩, fun b hb' => ?_⟩
      · rw [bdS_inr, nI_1]
      · rw [nI_1]
      · by_cases g : b < B
        · exact inF_on (by omega) (by omega) q4 (hf b g)
        · exact q5 b (by omega) hb'
    · subst q1
      subst q2
      right
      refine ⟨u, terms', ?_, ?_⟩
      · rw [bdS_inl]
      · rw [nI_1]
  · rw [if_neg (nI_nlt (show B ≤ a by omega) (by omega)), rd_eq rfl (show a < 200 by omega) (by decide), e2, Option.bind_some]
    rcases step_add hp hT.2.1 hS hrz with ⟨m1, rows1, slots1, terms1, g1, g2, hS1, hg, k, hk, ek⟩ | ⟨h200, u1, u2, u3, terms1, g1, g2⟩
    · have hm1 := hg.1
      obtain ⟨oc, o, h1, h2, h3⟩ := inner_eq (a := a) hp hT hw hK ha (hb := hb1) (lb := lb1) K 0 1000 1000 m1 rows1 slots1 terms1 (by omega) (by omega) (by omega) (by omega) hS1 (by rw [hg.2 a (by omega)]; exact hL)
      rw [show nI 0 = 0 from rfl] at h1 h2
      rw [g1, bd2_some, if_neg one_ne0, g2, Option.bind_some]
      dsimp only
      rw [h2, Option.bind_some]
      unfold m_X7_makeRound_j59 m_X7_makeRound_j70
      rw [if_pos (nI_le (show B ≤ a by omega) (by omega)), h1]
      have hG : inG now w m1 terms1 a := ⟨z, k, by rw [hg.2 a (by omega)]; exact e3, hk, ek⟩
      rcases h3 with ⟨m', rows', slots', terms', q1, q2, q3, q4, q5⟩ | ⟨u, terms', q1, q2⟩
      · subst q1
        subst q2
        left
        refine ⟨m', hb1, lb1, rows', slots', terms', ?_, ?_, q3, goOn_trans hg q4, inG_on (by omega) q4 hG, fun b hb' => q5 b (by omega) hb'⟩
        · rw [bdS_inr, nI_1]
        · rw [nI_1]
      · subst q1
        subst q2
        right
        refine ⟨u, terms', ?_, ?_⟩
        · rw [bdS_inl]
        · rw [nI_1]
    · rw [g1, bd2_some, if_pos rfl, g2, Option.bind_some]
      dsimp only
      have hf := in_full (now := now) (w := w) (K := K) (a := a) (b := 0) (M := 1000) (terms := terms1) (by decide)
      rw [show nI 0 = 0 from rfl] at hf
      rw [hf, Option.bind_some, nI_1]
      right
      exact ⟨_, terms1, rfl, rfl⟩
theorem outer_eq {n W w K B : Nat} {pi tv : Nat → Nat} {v now : Nat → Int32} (hp : PM W w pi) (hT : okT n tv) (hv : asT v tv) (hw : asT now tv) (hK : K ≤ 200) (hB : B ≤ K) : ∀ d a N M m hb lb rows slots terms, a + d = K → d < N → d < M → K ≤ m → ST n W w pi m rows slots terms → clB now w m terms B → (∀ a', a' < a → inG now w m terms a' ∧ ∀ b, b < K → inF now w m terms a' b) →
    ∃ oc o, lp (fun q : (Int32 × Int32 × (Nat → Int32) × (Nat → Int32) × (Nat → Int64) × (Nat → Int32)) => m_X7_makeRound_s14 (nI W) (nI n) v (nI B) (nI K) q.1 q.2.1 q.2.2.1 q.2.2.2.1 q.2.2.2.2.1 q.2.2.2.2.2) N (nI a, nI m, hb, lb, rows, slots) = some oc ∧ lp (fun q : (Int32 × Int32 × (Nat → Int64)) => m_X9_goesRound_s7 (nI K) now (nI w) q.1 q.2.1 q.2.2) M (nI a, nI m, terms) = some o ∧ postO n W w pi now K m terms oc o := by
  intro d
  induction d with
  | zero =>
    intro a N M m hb lb rows slots terms had hN hM hKm hS hc hd
    obtain ⟨N, rfl⟩ : ∃ q, N = q + 1 := ⟨N - 1, by omega⟩
    obtain ⟨M, rfl⟩ : ∃ q, M = q + 1 := ⟨M - 1, by omega⟩
    refine ⟨.inr (nI m, hb, lb, rows, slots), (nI m, terms), lp_exit ?_, lp_exit ?_, Or.inl ⟨m, hb, lb, rows, slots, terms, rfl, rfl, hS, goOn_refl, fun a' h' => hd a' (by omega)⟩⟩
    · show m_X7_makeRound_s14 (nI W) (nI n) v (nI B) (nI K) (nI a) (nI m) hb lb rows slots = _
      unfold m_X7_makeRound_s14
      rw [if_pos (nI_le (show K ≤ a by omega) (by omega))]
    · show m_X9_goesRound_s7 (nI K) now (nI w) (nI a) (nI m) terms = _
      unfold m_X9_goesRound_s7
      rw [if_pos (nI_le (show K ≤ a by omega) (by omega))]
  | succ d ih =>
    intro a N M m hb lb rows slots terms had hN hM hKm hS hc hd
    obtain ⟨N, rfl⟩ : ∃ q, N = q + 1 := ⟨N - 1, by omega⟩
    obtain ⟨M, rfl⟩ : ∃ q, M = q + 1 := ⟨M - 1, by omega⟩
    rcases turn_eq (hb := hb) (lb := lb) hp hT hv hw hK hB (show a < K by omega) hKm hS hc with ⟨m1, hb1, lb1, rows1, slots1, terms1, c1, r1, hS1, hg, hG, hF⟩ | ⟨u, terms1, c1, r1⟩
    · have hm1 := hg.1
      obtain ⟨oc, o, h1, h2, h3⟩ := ih (a + 1) N M m1 hb1 lb1 rows1 slots1 terms1 (by omega) (by omega) (by omega) (by omega) hS1 (fun x hx => ⟨inG_on (by omega) hg (hc x hx).1, fun b hb' => inF_on (by omega) (by omega) hg ((hc x hx).2 b hb')⟩) (fun x hx => by
        by_cases g : x = a
        · subst g
          exact ⟨hG, hF⟩
        · have := hd x (by omega)
          exact ⟨inG_on (by omega) hg this.1, fun b hb' => inF_on (by omega) (by omega) hg (this.2 b hb')⟩)
      refine ⟨oc, o, ?_, ?_, ?_⟩
      · rw [lp_succ (s := (nI a, nI m, hb, lb, rows, slots)) c1]
        exact h1
      · rw [lp_succ (s := (nI a, nI m, terms)) r1]
        exact h2
      · rcases h3 with ⟨m', hb', lb', rows', slots', terms', q1, q2, q3, q4, q5⟩ | h3
        · exact Or.inl ⟨m', hb', lb', rows', slots', terms', q1, q2, q3, goOn_trans hg q4, q5⟩
        · exact Or.inr h3
    · refine ⟨.inl (0, u), (nI 201, terms1), lp_exit c1, ?_, Or.inr ⟨_, _, rfl, rfl⟩⟩
      rw [lp_succ (s := (nI a, nI m, terms)) r1]
      exact out_full (by omega)
def postR (n W w : Nat) (pi : Nat → Nat) (now : Nat → Int32) (m : Nat) (terms : Nat → Int64) (oc : Option (Int32 × (Int32 × (Nat → Int32) × (Nat → Int32) × (Nat → Int64) × (Nat → Int32)))) (o : Option (Int32 × (Int32 × (Nat → Int64)))) : Prop :=
  (∃ m' hb' lb' rows' slots' terms', oc = some (1, (nI m', hb', lb', rows', slots')) ∧ o = some (if m' ≤ m then 0 else 1, (nI m', terms')) ∧ ST n W w pi m' rows' slots' terms' ∧ goOn m m' terms terms' ∧ clB now w m' terms' m) ∨ (∃ u1 u2 u3 u4 u5 terms', oc = some (0, (u1, u2, u3, u4, u5)) ∧ o = some (1, (nI 201, terms')))
theorem round_eq {n W w B m : Nat} {pi tv : Nat → Nat} {v now hb lb slots : Nat → Int32} {rows terms : Nat → Int64} (hp : PM W w pi) (hT : okT n tv) (hv : asT v tv) (hw : asT now tv) (hB : B ≤ m) (hS : ST n W w pi m rows slots terms) (hc : clB now w m terms B) :
    postR n W w pi now m terms (m_X7_makeRound (nI m) (nI W) hb lb rows slots (nI n) v (nI B)) (m_X9_goesRound (nI m) now terms (nI w)) := by
  have hm := hS.1
  obtain ⟨oc, o, h1, h2, h3⟩ := outer_eq hp hT hv hw hm hB m 0 1000 1000 m hb lb rows slots terms (by omega) (by omega) (by omega) (Nat.le_refl m) hS hc (fun a' h' => by omega)
  rw [show nI 0 = 0 from rfl] at h1 h2
  have h200 : ¬ (200 : Int32) < nI m := by
    have q : ¬ nI 200 < nI m := nI_nlt hm (by decide)
    exact q
  unfold m_X7_makeRound m_X9_goesRound nm
  rw [if_neg h200]
  dsimp only
  rw [h1, h2, Option.bind_some]
  unfold m_X9_goesRound_j90
  rcases h3 with ⟨m', hb', lb', rows', slots', terms', q1, q2, q3, q4, q5⟩ | ⟨u, terms', q1, q2⟩
  · subst q1
    subst q2
    left
    refine ⟨m', hb', lb', rows', slots', terms', rfl, ?_, q3, q4, q5⟩
    have hm' := q3.1
    show (if nI m' ≤ nI m then some ((0 : Int32), (nI m', terms')) else some (1, (nI m', terms'))) = some (if m' ≤ m then 0 else 1, (nI m', terms'))
    by_cases g : m' ≤ m
    · rw [if_pos (nI_le g (by omega)), if_pos g]
    · rw [if_neg (nI_ge (show m < m' by omega) (by omega)), if_neg g]
  · subst q1
    subst q2
    right
    obtain ⟨u1, u2, u3, u4, u5⟩ := u
    refine ⟨u1, u2, u3, u4, u5, terms', rfl, ?_⟩
    show (if nI 201 ≤ nI m then some ((0 : Int32), (nI 201, terms')) else some (1, (nI 201, terms'))) = _
    rw [if_neg (nI_ge (show m < 201 by omega) (by decide))]
