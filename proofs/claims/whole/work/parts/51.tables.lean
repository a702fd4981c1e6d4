/-! promise 4: class and reference side by side -/
theorem skp_CR {a b : Nat → Int32} {L p p' : Nat} {s : RS} {R : Int32 × RS} (hL : L ≤ 60) (hab : txR L a b) (h : skp b L p p') (hR : CR a L p' s R) : CR a L p s R := by
  obtain ⟨h1, h2, h3⟩ := h
  refine CR_blanks hL (p' - p) p (by omega) (fun j g1 g2 => ?_) ?_
  · rw [hab j (by omega)]; exact h3 j g1 (by omega)
  · rw [show p + (p' - p) = p' by omega]; exact hR
theorem fig_go {a b : Nat → Int32} {L p n k : Nat} {it i : Int32} {v : Nat → Int32} (hL : L ≤ 60) (hab : txR L a b) (hp : p ≤ L) (h1 : 1 ≤ n) (h4 : n ≤ 4) (hi : i = 102 ∨ i = 103) (hk : k < dueI i n) (tA tk : Int32) : (∃ f u x y, f ≤ 60 ∧ CR a L p (it, i, nI k, nI n, v) (nI f, u) ∧ m_X9_figure (nI L) (nI p) tA tk b 0 (nI n - 1) = some (0, (x, nI f, y))) ∨ (∃ d p', d < n ∧ p < p' ∧ p' ≤ L ∧ (∃ z, m_X9_figure (nI L) (nI p) tA tk b 0 (nI n - 1) = some (1, (nI p', z, nI (48 + d)))) ∧ ∀ R, CR a L p' (it, i, nI (k + 1), nI n, upd v (plI i n k) (nI d)) R → CR a L p (it, i, nI k, nI n, v) R) := by
  have hi0 : ¬ i = 0 := by rcases hi with rfl | rfl <;> decide
  obtain ⟨p', hs, h | ⟨h2, h3, d, d1, d2, e, h⟩⟩ := figure_eq (b := b) (lo := 0) (hi := n - 1) (xl := 0) (xh := nI n - 1) hL hp rfl (by rw [show (1 : Int32) = nI 1 from rfl, pk_sub h1]) (by omega) (by omega) tA tk
  · left
    obtain ⟨x, y, e, h2⟩ := h
    rcases h2 with rfl | ⟨h2, h3, h5⟩
    · exact ⟨p', _, x, y, by omega, skp_CR hL hab hs (CR_end1 hL hi0), e⟩
    · obtain ⟨u, hu⟩ := takes_bad (it := it) (v := v) (t := b p') h1 h4 hi hk (fun ⟨d, g1, g2⟩ => h5 ⟨d, by omega, by omega, g2⟩)
      rw [← hab p' h2] at hu h3
      exact ⟨p', u, x, y, by omega, skp_CR hL hab hs (CR_take0 hL h2 h3 hu), e⟩
  · right
    refine ⟨d, p' + 1, by omega, by have := hs.1; omega, by omega, ⟨_, h⟩, fun R hR => skp_CR hL hab hs ?_⟩
    have ht := takes_good (it := it) (v := v) (d := d) h1 h4 hi hk (by omega)
    rw [← e, ← hab p' h2] at ht
    rw [← hab p' h2] at h3
    exact CR_take1 hL h2 h3 ht hR
theorem end_go {a b : Nat → Int32} {L p n k : Nat} {it i : Int32} {v : Nat → Int32} (hL : L ≤ 60) (hab : txR L a b) (hp : p ≤ L) (hi0 : ¬ i = 0) (hdue : m_X5_figuresDue i (nI n) = some (nI k)) (hk : k < 2 ^ 31) (tA tk : Int32) : (∃ f u x y, f ≤ 60 ∧ CR a L p (it, i, nI k, nI n, v) (nI f, u) ∧ m_X9_ends (nI L) (nI p) tA tk b = some (0, (x, nI f, y))) ∨ (∃ p', p < p' ∧ p' ≤ L ∧ (∃ x y, m_X9_ends (nI L) (nI p) tA tk b = some (1, (nI p', x, y))) ∧ ∀ R, CR a L p' (it + 1, 0, nI k, nI n, v) R → CR a L p (it, i, nI k, nI n, v) R) := by
  obtain ⟨p', hs, h | ⟨h2, h3, e, y, h⟩⟩ := ends_eq (b := b) hL hp tA tk
  · left
    obtain ⟨x, y, e, h2⟩ := h
    rcases h2 with rfl | ⟨h2, h3, h5⟩
    · exact ⟨p', _, x, y, by omega, skp_CR hL hab hs (CR_end1 hL hi0), e⟩
    · obtain ⟨u, hu⟩ := takes_noend (it := it) (v := v) (t := b p') hi0 hdue hk h5
      rw [← hab p' h2] at hu h3
      exact ⟨p', u, x, y, by omega, skp_CR hL hab hs (CR_take0 hL h2 h3 hu), e⟩
  · right
    refine ⟨p' + 1, by have := hs.1; omega, by omega, ⟨_, _, h⟩, fun R hR => skp_CR hL hab hs ?_⟩
    have ht := takes_end (it := it) (v := v) hi0 hdue hk
    rw [← e, ← hab p' h2] at ht
    rw [← hab p' h2] at h3
    exact CR_take1 hL h2 h3 ht hR
theorem size_go {a b : Nat → Int32} {L p n : Nat} {it : Int32} {v : Nat → Int32} (hL : L ≤ 60) (hab : txR L a b) (hp : p ≤ L) (tA tk : Int32) : (∃ f u x y, f ≤ 60 ∧ CR a L p (it, 110, nI 0, nI n, v) (nI f, u) ∧ m_X9_figure (nI L) (nI p) tA tk b 1 4 = some (0, (x, nI f, y))) ∨ (∃ d p', 1 ≤ d ∧ d ≤ 4 ∧ p < p' ∧ p' ≤ L ∧ (∃ z, m_X9_figure (nI L) (nI p) tA tk b 1 4 = some (1, (nI p', z, nI (48 + d)))) ∧ ∀ R, CR a L p' (it, 110, nI 1, nI d, soX v 4) R → CR a L p (it, 110, nI 0, nI n, v) R) := by
  obtain ⟨p', hs, h | ⟨h2, h3, d, d1, d2, e, h⟩⟩ := figure_eq (b := b) (lo := 1) (hi := 4) (xl := 1) (xh := 4) hL hp rfl rfl (by omega) (by omega) tA tk
  · left
    obtain ⟨x, y, e, h2⟩ := h
    rcases h2 with rfl | ⟨h2, h3, h5⟩
    · exact ⟨p', _, x, y, by omega, skp_CR hL hab hs (CR_end1 hL (by decide)), e⟩
    · obtain ⟨u, hu⟩ := takes_nosize (it := it) (v := v) (t := b p') (n := n) h5
      rw [← hab p' h2] at hu h3
      exact ⟨p', u, x, y, by omega, skp_CR hL hab hs (CR_take0 hL h2 h3 hu), e⟩
  · right
    refine ⟨d, p' + 1, d1, d2, by have := hs.1; omega, by omega, ⟨_, h⟩, fun R hR => skp_CR hL hab hs ?_⟩
    have ht := takes_size (it := it) (v := v) (n := n) d1 d2
    rw [← e, ← hab p' h2] at ht
    rw [← hab p' h2] at h3
    exact CR_take1 hL h2 h3 ht hR
abbrev QS : Type := Int32 × Int32 × Int32 × Int32 × (Nat → Int32)
abbrev QR : Type := Int32 × Int32 × Int32 × (Nat → Int32)
theorem figs_go {a b : Nat → Int32} {L n D : Nat} {it i : Int32} {st : QS → Option (QS ⊕ ((Int32 × QR) ⊕ QR))} (hL : L ≤ 60) (hab : txR L a b) (h1 : 1 ≤ n) (h4 : n ≤ 4) (hi : i = 102 ∨ i = 103) (hD : D = dueI i n)
    (hx : ∀ p tA tk w, w 20 = nI n → st (nI D, nI p, tA, tk, w) = some (.inr (.inr (nI p, tA, tk, w))))
    (hf : ∀ k p tA tk w x f y, k < D → w 20 = nI n → m_X9_figure (nI L) (nI p) tA tk b 0 (nI n - 1) = some (0, (x, f, y)) → st (nI k, nI p, tA, tk, w) = some (.inr (.inl (0, (x, f, y, w)))))
    (hg : ∀ k p tA tk w x z d, k < D → w 20 = nI n → d < n → m_X9_figure (nI L) (nI p) tA tk b 0 (nI n - 1) = some (1, (x, z, nI (48 + d))) → st (nI k, nI p, tA, tk, w) = some (.inl (nI (k + 1), x, z, nI (48 + d), upd w (plI i n k) (nI d)))) :
    ∀ d k p tA tk w v tv N, k + d = D → d < N → p ≤ L → okT n tv → asT v tv → as21 w tv n → (∃ f u x y w', f ≤ 60 ∧ CR a L p (it, i, nI k, nI n, v) (nI f, u) ∧ lp st N (nI k, nI p, tA, tk, w) = some (.inl (0, (x, nI f, y, w')))) ∨ (∃ p' tA' tk' w' v' tv', p ≤ p' ∧ p' ≤ L ∧ okT n tv' ∧ asT v' tv' ∧ as21 w' tv' n ∧ lp st N (nI k, nI p, tA, tk, w) = some (.inr (nI p', tA', tk', w')) ∧ ∀ R, CR a L p' (it, i, nI D, nI n, v') R → CR a L p (it, i, nI k, nI n, v) R) := by
  intro d
  induction d with
  | zero =>
    intro k p tA tk w v tv N hk hN hp hT hv hw
    obtain ⟨N, rfl⟩ : ∃ M, N = M + 1 := ⟨N - 1, by omega⟩
    obtain rfl : k = D := by omega
    right
    exact ⟨p, tA, tk, w, v, tv, Nat.le_refl p, hp, hT, hv, hw, lp_exit (hx p tA tk w hw.2), fun R h => h⟩
  | succ d ih =>
    intro k p tA tk w v tv N hk hN hp hT hv hw
    obtain ⟨N, rfl⟩ : ∃ M, N = M + 1 := ⟨N - 1, by omega⟩
    have hkD : k < D := by omega
    have hkd : k < dueI i n := by omega
    have hpl := pl_lt h1 h4 hi hkd
    rcases fig_go (it := it) (v := v) hL hab hp h1 h4 hi hkd tA tk with ⟨f, u, x, y, f60, hc, e⟩ | ⟨c, p', hc, g1, g2, ⟨z, e⟩, hR⟩
    · left
      exact ⟨f, u, x, y, w, f60, hc, lp_exit (hf k p tA tk w x (nI f) y hkD hw.2 e)⟩
    · have hs := hg k p tA tk w _ z c hkD hw.2 hc e
      have hw' : as21 (upd w (plI i n k) (nI c)) (setT tv (plI i n k) c) n := ⟨asT_upd (fun j hj _ => hw.1 j hj), by rw [pk_un (by omega)]; exact hw.2⟩
      rcases ih (k + 1) p' z (nI (48 + c)) _ (upd v (plI i n k) (nI c)) _ N (by omega) (by omega) g2 (pl_ok hT hi hkd hc) (asT_upd (fun j hj _ => hv j hj)) hw' with ⟨f, u, x, y, w', f60, h5, e5⟩ | ⟨p2, tA', tk', w', v', tv', q1, q2, q3, q4, q5, q6, q7⟩
      · left
        exact ⟨f, u, x, y, w', f60, hR _ h5, by rw [lp_succ hs]; exact e5⟩
      · right
        exact ⟨p2, tA', tk', w', v', tv', by omega, q2, q3, q4, q5, by rw [lp_succ hs]; exact q6, fun R h => hR R (q7 R h)⟩
/-- what an item leaves -/
def itemOut (a : Nat → Int32) (L p : Nat) (it : Int32) (s : RS) (m : Option (Int32 × QR)) : Prop := (∃ f u x y w', f ≤ 60 ∧ CR a L p s (nI f, u) ∧ m = some (0, (x, nI f, y, w'))) ∨ (∃ p' x y fg n' w' v' tv', p < p' ∧ p' ≤ L ∧ okT n' tv' ∧ asT v' tv' ∧ as21 w' tv' n' ∧ m = some (1, (nI p', x, y, w')) ∧ ∀ R, CR a L p' (it + 1, 0, fg, nI n', v') R → CR a L p s R)
theorem figs_end {a b : Nat → Int32} {L n D p : Nat} {it i : Int32} {st : QS → Option (QS ⊕ ((Int32 × QR) ⊕ QR))} {tA tk : Int32} {w v : Nat → Int32} (hL : L ≤ 60) (hab : txR L a b) (h4 : n ≤ 4) (hi : i = 102 ∨ i = 103) (hD : D = dueI i n)
    (h : (∃ f u x y w', f ≤ 60 ∧ CR a L p (it, i, nI 0, nI n, v) (nI f, u) ∧ lp st 1000 (nI 0, nI p, tA, tk, w) = some (.inl (0, (x, nI f, y, w')))) ∨ (∃ p' tA' tk' w' v' tv', p ≤ p' ∧ p' ≤ L ∧ okT n tv' ∧ asT v' tv' ∧ as21 w' tv' n ∧ lp st 1000 (nI 0, nI p, tA, tk, w) = some (.inr (nI p', tA', tk', w')) ∧ ∀ R, CR a L p' (it, i, nI D, nI n, v') R → CR a L p (it, i, nI 0, nI n, v) R)) :
    itemOut a L p it (it, i, nI 0, nI n, v) (bdS (lp st 1000 (0, nI p, tA, tk, w)) (fun u => some u) (fun z => bd2 (m_X9_ends (nI L) z.1 z.2.1 z.2.2.1 b) (fun r7 u6 => gd (r7 = 0 ∨ r7 = 1) (some (r7, (u6.1, u6.2.1, u6.2.2, z.2.2.2)))))) := by
  have hi0 : ¬ i = 0 := by rcases hi with rfl | rfl <;> decide
  have hle := due_le (i := i) h4
  rcases h with ⟨f, u, x, y, w', f60, h5, e5⟩ | ⟨p2, tA', tk', w', v', tv', q1, q2, q3, q4, q5, q6, q7⟩
  · left
    have e6 : lp st 1000 (0, nI p, tA, tk, w) = _ := e5
    rw [e6]
    exact ⟨f, u, x, y, w', f60, h5, rfl⟩
  · have e6 : lp st 1000 (0, nI p, tA, tk, w) = _ := q6
    rw [e6]
    rcases end_go (k := D) (it := it) (v := v') hL hab q2 hi0 (by rw [hD]; exact due_eq hi) (by omega) tA' tk' with ⟨f, u, x, y, f60, h5, e5⟩ | ⟨p3, g1, g2, ⟨x, y, e5⟩, hR⟩
    · left
      refine ⟨f, u, x, y, w', f60, q7 _ h5, ?_⟩
      simp only [bdS, bd2, Option.bind_some, Sum.elim_inr, e5]
      rfl
    · right
      refine ⟨p3, x, y, nI D, n, w', v', tv', by omega, g2, q3, q4, q5, ?_, fun R h => q7 R (hR R h)⟩
      simp only [bdS, bd2, Option.bind_some, Sum.elim_inr, e5]
      rfl
theorem readsF_go {a b : Nat → Int32} {L n p : Nat} {it : Int32} {w v : Nat → Int32} {tv : Nat → Nat} (hL : L ≤ 60) (hab : txR L a b) (hp : p ≤ L) (hT : okT n tv) (hv : asT v tv) (hw : as21 w tv n) (tA tk : Int32) : itemOut a L p it (it, 102, nI 0, nI n, v) (m_X9_readsF (nI L) (nI p) tA tk w b) := by
  have h1 := hT.1
  have h4 := hT.2.1
  have hD : n * n = dueI 102 n := by unfold dueI; rw [if_pos rfl]
  have h16 : n * n ≤ 16 := Nat.mul_le_mul h4 h4
  unfold m_X9_readsF
  rw [show (20 : Int32) = nI 20 from rfl, rd_eq rfl (by decide) (by decide), hw.2]
  refine figs_end (i := 102) (n := n) (D := n * n) hL hab h4 (Or.inl rfl) hD (figs_go (b := b) (it := it) hL hab h1 h4 (Or.inl rfl) hD (fun p tA tk w h20 => ?_) (fun k p tA tk w x f y hk h20 e => ?_) (fun k p tA tk w x z d hk h20 hd e => ?_) (n * n) 0 p tA tk w v tv 1000 (by omega) (by omega) hp hT hv hw)
  · show m_X9_readsF_s10 (nI L) b (nI n) (nI (n * n)) (nI p) tA tk w = _
    unfold m_X9_readsF_s10
    rw [pk_mul, if_pos (nI_le (Nat.le_refl _) (by omega))]
  · show m_X9_readsF_s10 (nI L) b (nI n) (nI k) (nI p) tA tk w = _
    unfold m_X9_readsF_s10 bd2
    rw [pk_mul, if_neg (nI_ge hk (by omega)), e, Option.bind_some]
    dsimp only
    rw [if_pos rfl]
  · show m_X9_readsF_s10 (nI L) b (nI n) (nI k) (nI p) tA tk w = _
    have hxn := Nat.div_lt_of_lt_mul hk
    have hyn := Nat.mod_lt k (show 0 < n by omega)
    unfold m_X9_readsF_s10 bd2 gd
    rw [pk_mul, if_neg (nI_ge hk (by omega)), e, Option.bind_some]
    dsimp only
    rw [if_neg one_ne0, if_pos (nI_ne0 (by omega) (by omega)), if_pos (nI_ne0 (by omega) (by omega)), wrI_eq (j := 4 * (k / n) + k % n) (by rw [pk_rem (by omega) (by omega) (by omega), pk_div (by omega) (by omega) (by omega), show (4 : Int32) = nI 4 from rfl, pk_mul, nI_add]) (by omega) (by decide), nI_1, (n48 d (by omega)).2.2.2]
    unfold plI
    rw [if_pos rfl]
theorem readsG_go {a b : Nat → Int32} {L n p : Nat} {it : Int32} {w v : Nat → Int32} {tv : Nat → Nat} (hL : L ≤ 60) (hab : txR L a b) (hp : p ≤ L) (hT : okT n tv) (hv : asT v tv) (hw : as21 w tv n) (tA tk : Int32) : itemOut a L p it (it, 103, nI 0, nI n, v) (m_X9_readsG (nI L) (nI p) tA tk w b) := by
  have h1 := hT.1
  have h4 := hT.2.1
  have hD : n = dueI 103 n := by unfold dueI; rw [if_neg (by decide)]
  unfold m_X9_readsG
  refine figs_end (i := 103) (n := n) (D := n) hL hab h4 (Or.inr rfl) hD (figs_go (b := b) (it := it) hL hab h1 h4 (Or.inr rfl) hD (fun p tA tk w h20 => ?_) (fun k p tA tk w x f y hk h20 e => ?_) (fun k p tA tk w x z d hk h20 hd e => ?_) n 0 p tA tk w v tv 1000 (by omega) (by omega) hp hT hv hw)
  · show m_X9_readsG_s2 (nI L) b (nI n) (nI p) tA tk w = _
    unfold m_X9_readsG_s2
    rw [show (20 : Int32) = nI 20 from rfl, rd_eq rfl (by decide) (by decide), h20, if_pos (nI_le (Nat.le_refl _) (by omega))]
  · show m_X9_readsG_s2 (nI L) b (nI k) (nI p) tA tk w = _
    unfold m_X9_readsG_s2 bd2
    rw [show (20 : Int32) = nI 20 from rfl, rd_eq rfl (by decide) (by decide), h20, if_neg (nI_ge hk (by omega)), rd_eq rfl (by decide) (by decide), h20, e, Option.bind_some]
    dsimp only
    rw [if_pos rfl]
  · show m_X9_readsG_s2 (nI L) b (nI k) (nI p) tA tk w = _
    unfold m_X9_readsG_s2 bd2
    rw [show (20 : Int32) = nI 20 from rfl, rd_eq rfl (by decide) (by decide), h20, if_neg (nI_ge hk (by omega)), rd_eq rfl (by decide) (by decide), h20, e, Option.bind_some]
    dsimp only
    rw [if_neg one_ne0, show (16 : Int32) = nI 16 from rfl, wrI_eq (j := 16 + k) (by rw [nI_add]) (by omega) (by decide), nI_1, (n48 d (by omega)).2.2.2]
    unfold plI
    rw [if_neg (by decide)]
theorem readsSize_go {a b : Nat → Int32} {L n p : Nat} {w v : Nat → Int32} (hL : L ≤ 60) (hab : txR L a b) (hp : p ≤ L) (hw : as21 w tv0 n) (tA tk : Int32) : itemOut a L p (nI 0) (nI 0, 110, nI 0, nI n, v) (m_X9_readsSize (nI L) (nI p) tA tk (nI 0) w b) := by
  unfold m_X9_readsSize
  rw [if_neg (show ¬ 0 < nI 0 by decide)]
  rcases size_go (it := nI 0) (v := v) (n := n) hL hab hp tA tk with ⟨f, u, x, y, f60, h5, e5⟩ | ⟨d, p', d1, d4, g1, g2, ⟨z, e5⟩, hR⟩
  · left
    rw [e5]
    exact ⟨f, u, x, y, w, f60, h5, rfl⟩
  · rw [e5]
    unfold bd2
    rw [Option.bind_some]
    dsimp only
    rw [if_neg one_ne0, show (20 : Int32) = nI 20 from rfl, wrI_eq rfl (by decide) (by decide), (n48 d (by omega)).2.2.2]
    rcases end_go (k := 1) (n := d) (it := nI 0) (i := 110) (v := soX v 4) hL hab g2 (by decide) rfl (by omega) z (nI (48 + d)) with ⟨f, u, x, y, f60, h6, e6⟩ | ⟨p3, g3, g4, ⟨x, y, e6⟩, hR2⟩
    · left
      rw [e6]
      exact ⟨f, u, x, y, _, f60, hR _ h6, rfl⟩
    · right
      rw [e6]
      refine ⟨p3, x, y, nI 1, d, upd w 20 (nI d), soX v 4, tv0, by omega, g4, okT_0 d1 d4, soX_as, ⟨fun j hj => ?_, pk_us⟩, rfl, fun R h => hR R (hR2 R h)⟩
      rw [pk_un (by omega)]
      exact hw.1 j hj
theorem opens_eq {it fg : Int32} {n : Int32} {v : Nat → Int32} {t : Int32} (h : t = 102 ∨ t = 103 ∨ (t = 110 ∧ it = 0)) : m_X5_takes it 0 fg n v t = some (1, (it, t, 0, n, v)) := by
  unfold m_X5_takes m_X5_opens m_X5_opens_j25 m_X5_opens_j30 bd2 gd
  rw [if_pos rfl]
  rcases h with rfl | rfl | ⟨rfl, rfl⟩ <;> rfl
theorem opens_no {it fg : Int32} {n : Int32} {v : Nat → Int32} {t : Int32} (h1 : ¬ t = 102) (h2 : ¬ t = 103) (h3 : ¬ (t = 110 ∧ it = 0)) : m_X5_takes it 0 fg n v t = some (0, (it, 0, fg, n, v)) := by
  unfold m_X5_takes m_X5_opens m_X5_opens_j29 m_X5_opens_j30 bd2 gd
  rw [if_pos rfl, if_neg h1, if_neg h2]
  by_cases e : t = 110
  · rw [if_pos e, if_neg (fun q => h3 ⟨e, q⟩)]; rfl
  · rw [if_neg e]; rfl
theorem itemOut_gd {a : Nat → Int32} {L p : Nat} {it : Int32} {s : RS} {m : Option (Int32 × QR)} (h : itemOut a L p it s m) : itemOut a L p it s (bd2 m (fun r3 u2 => gd (r3 = 0 ∨ r3 = 1) (some (r3, (u2.1, u2.2.1, u2.2.2.1, u2.2.2.2))))) := by
  rcases h with ⟨f, u, x, y, w', f60, h5, e⟩ | ⟨p', x, y, fg, n', w', v', tv', q1, q2, q3, q4, q5, e, q7⟩
  · left
    rw [e]
    exact ⟨f, u, x, y, w', f60, h5, rfl⟩
  · right
    rw [e]
    exact ⟨p', x, y, fg, n', w', v', tv', q1, q2, q3, q4, q5, rfl, q7⟩
theorem itemOut_up {a : Nat → Int32} {L p : Nat} {it : Int32} {s s' : RS} {m : Option (Int32 × QR)} (hR : ∀ R, CR a L (p + 1) s' R → CR a L p s R) (h : itemOut a L (p + 1) it s' m) : itemOut a L p it s m := by
  rcases h with ⟨f, u, x, y, w', f60, h5, e⟩ | ⟨p', x, y, fg, n', w', v', tv', q1, q2, q3, q4, q5, e, q7⟩
  · left
    exact ⟨f, u, x, y, w', f60, hR _ h5, e⟩
  · right
    exact ⟨p', x, y, fg, n', w', v', tv', by omega, q2, q3, q4, q5, e, fun R h => hR R (q7 R h)⟩
theorem item_go {a b : Nat → Int32} {L n p it : Nat} {fg : Int32} {w v : Nat → Int32} {tv : Nat → Nat} (hL : L ≤ 60) (hab : txR L a b) (hp : p < L) (hb : ¬ b p = 32) (hit : it < 2 ^ 31) (h0 : it = 0 → as21 w tv0 n) (hT : okT n tv) (hv : asT v tv) (hw : as21 w tv n) (tA tk : Int32) : itemOut a L p (nI it) (nI it, 0, fg, nI n, v) (m_X9_readsItem (nI L) (nI p) tA tk (nI it) w b) := by
  obtain ⟨p', hs, h⟩ := next_eq (b := b) hL (Nat.le_of_lt hp) tA tk
  obtain rfl : p' = p := by
    obtain ⟨s1, s2, s3⟩ := hs
    rcases Nat.lt_or_ge p p' with q | q
    · exact absurd (s3 p (Nat.le_refl p) q) hb
    · omega
  have ha : ¬ a p' = 32 := by rw [hab p' hp]; exact hb
  rcases h with ⟨e, _⟩ | ⟨_, _, e⟩
  · omega
  · unfold m_X9_readsItem
    rw [e, Option.bind_some]
    dsimp only
    by_cases c1 : b p' = 102
    · rw [if_pos c1, c1]
      refine itemOut_up (fun R hR => CR_take1 hL hp ha (opens_eq (Or.inl (by rw [hab p' hp]; exact c1))) ?_) (itemOut_gd (readsF_go (it := nI it) hL hab (by omega) hT hv hw _ _))
      rw [hab p' hp, c1]
      exact hR
    · rw [if_neg c1]
      by_cases c2 : b p' = 103
      · rw [if_pos c2, c2]
        refine itemOut_up (fun R hR => CR_take1 hL hp ha (opens_eq (Or.inr (Or.inl (by rw [hab p' hp]; exact c2)))) ?_) (itemOut_gd (readsG_go (it := nI it) hL hab (by omega) hT hv hw _ _))
        rw [hab p' hp, c2]
        exact hR
      · rw [if_neg c2]
        by_cases c3 : b p' = 110
        · rw [if_pos c3, c3]
          by_cases c4 : it = 0
          · subst c4
            refine itemOut_up (fun R hR => CR_take1 hL hp ha (opens_eq (Or.inr (Or.inr ⟨by rw [hab p' hp]; exact c3, rfl⟩))) ?_) (itemOut_gd (readsSize_go (v := v) hL hab (by omega) (h0 rfl) _ _))
            rw [hab p' hp, c3]
            exact hR
          · left
            refine ⟨p', _, nI (p' + 1), 110, w, by omega, CR_take0 hL hp ha (opens_no (by rw [hab p' hp]; exact c1) (by rw [hab p' hp]; exact c2) (fun q => ?_)), ?_⟩
            · exact nI_ne0 (by omega) hit q.2
            · unfold m_X9_readsSize
              rw [if_pos (show 0 < nI it from nI_lt (a := 0) (by omega) hit)]
              rfl
        · rw [if_neg c3]
          left
          refine ⟨p', _, nI (p' + 1), b p', w, by omega, CR_take0 hL hp ha (opens_no (by rw [hab p' hp]; exact c1) (by rw [hab p' hp]; exact c2) (fun q => ?_)), rfl⟩
          rw [hab p' hp] at q
          exact c3 q.1
/-! all items -/
theorem items_go {a b : Nat → Int32} {L : Nat} {um sm : Int32} {ik now : Nat → Int32} (hL : L ≤ 60) (hab : txR L a b) : ∀ m p it fg n v w tv tA tk N, L - p ≤ m → m < N → p ≤ L → (p = L ∨ (p < L ∧ ¬ b p = 32)) → it + (L - p) < 2 ^ 31 → (it = 0 → as21 w tv0 n) → okT n tv → asT v tv → as21 w tv n → (∃ f u x y z q w', f ≤ 60 ∧ CR a L p (nI it, 0, fg, nI n, v) (nI f, u) ∧ lp (fun q : (Int32 × Int32 × Int32 × Int32 × (Nat → Int32)) => m_X9_tables_s22 um sm (nI L) ik now b q.1 q.2.1 q.2.2.1 q.2.2.2.1 q.2.2.2.2) N (nI p, tA, tk, nI it, w) = some (.inl (-10 - nI f, (um, sm, nI L, x, nI f, y, z, q, ik, now, w')))) ∨ (∃ it' fg' n' v' w' tv' x y z, CR a L p (nI it, 0, fg, nI n, v) (-1, (nI it', 0, fg', nI n', v')) ∧ lp (fun q : (Int32 × Int32 × Int32 × Int32 × (Nat → Int32)) => m_X9_tables_s22 um sm (nI L) ik now b q.1 q.2.1 q.2.2.1 q.2.2.2.1 q.2.2.2.2) N (nI p, tA, tk, nI it, w) = some (.inr (x, y, z, nI it', w')) ∧ okT n' tv' ∧ asT v' tv' ∧ as21 w' tv' n') := by
  intro m
  induction m with
  | zero =>
    intro p it fg n v w tv tA tk N hm hN hp hb hit h0 hT hv hw
    obtain ⟨N, rfl⟩ : ∃ M, N = M + 1 := ⟨N - 1, by omega⟩
    obtain rfl : p = L := by omega
    right
    refine ⟨it, fg, n, v, w, tv, nI p, tA, tk, CR_end0 hL _ _ _ _, lp_exit ?_, hT, hv, hw⟩
    show m_X9_tables_s22 um sm (nI p) ik now b (nI p) tA tk (nI it) w = _
    unfold m_X9_tables_s22
    rw [if_pos (nI_le (Nat.le_refl p) (by omega))]
  | succ m ih =>
    intro p it fg n v w tv tA tk N hm hN hp hb hit h0 hT hv hw
    obtain ⟨N, rfl⟩ : ∃ M, N = M + 1 := ⟨N - 1, by omega⟩
    rcases hb with rfl | ⟨hb1, hb2⟩
    · right
      refine ⟨it, fg, n, v, w, tv, nI p, tA, tk, CR_end0 hL _ _ _ _, lp_exit ?_, hT, hv, hw⟩
      show m_X9_tables_s22 um sm (nI p) ik now b (nI p) tA tk (nI it) w = _
      unfold m_X9_tables_s22
      rw [if_pos (nI_le (Nat.le_refl p) (by omega))]
    · rcases item_go (fg := fg) hL hab hb1 hb2 (by omega) h0 hT hv hw tA tk with ⟨f, u, x, y, w', f60, h5, e⟩ | ⟨p', x, y, fg', n', w', v', tv', q1, q2, q3, q4, q5, e, q7⟩
      · left
        refine ⟨f, u, x, y, nI f, nI it, w', f60, h5, lp_exit ?_⟩
        show m_X9_tables_s22 um sm (nI L) ik now b (nI p) tA tk (nI it) w = _
        unfold m_X9_tables_s22 bd2
        rw [if_neg (nI_ge hb1 (by omega)), e, Option.bind_some]
        dsimp only
        rw [if_pos rfl]
      · obtain ⟨p2, k1, k2, k3⟩ := blanks_eq (b := b) hL q2
        have hst : m_X9_tables_s22 um sm (nI L) ik now b (nI p) tA tk (nI it) w = some (.inl (nI p2, x, y, nI (it + 1), w')) := by
          unfold m_X9_tables_s22 bd2
          rw [if_neg (nI_ge hb1 (by omega)), e, Option.bind_some]
          dsimp only
          rw [if_neg one_ne0, k3, Option.bind_some, nI_1]
        obtain ⟨k4, k5, k6⟩ := k1
        have hnext := ih p2 (it + 1) fg' n' v' w' tv' x y N (by omega) (by omega) k5 k2 (by omega) (fun h => by omega) q3 q4 q5
        have hcr : ∀ R, CR a L p2 (nI (it + 1), 0, fg', nI n', v') R → CR a L p (nI it, 0, fg, nI n, v) R := by
          intro R hR
          refine q7 R (skp_CR hL hab ⟨k4, k5, k6⟩ ?_)
          rw [nI_1]
          exact hR
        rw [lp_succ (s := (nI p, tA, tk, nI it, w)) hst]
        rcases hnext with ⟨f, u, x, y, z, q, w', f60, h5, e5⟩ | ⟨it', fg2, n2, v2, w2, tv2, x, y, z, h5, e5, g3, g4, g5⟩
        · left
          exact ⟨f, u, x, y, z, q, w', f60, hcr _ h5, e5⟩
        · right
          exact ⟨it', fg2, n2, v2, w2, tv2, x, y, z, hcr _ h5, e5, g3, g4, g5⟩
theorem copy80 {z : Int32 × Int32 × Int32 × Int32 × (Nat → Int32)} {now : Nat → Int32} : lp (fun q : (Int32 × (Nat → Int32)) => m_X9_tables_s80 z q.1 q.2) 1000 (0, now) = some (cpF z.2.2.2.2 0 now 21) := by
  refine lp_copy z.2.2.2.2 0 21 (by decide) now (fun k f hk => ?_) (fun f => rfl)
  show m_X9_tables_s80 z (nI k) f = _
  unfold m_X9_tables_s80
  rw [show (21 : Int32) = nI 21 from rfl, if_neg (nI_ge hk (by decide)), rd_eq rfl hk (by decide), wrI_eq rfl hk (by decide), nI_1, Nat.zero_add]
theorem cpF_as {w now : Nat → Int32} {tv : Nat → Nat} {n : Nat} (h : as21 w tv n) : as21 (cpF w 0 now 21) tv n := by
  refine ⟨fun j hj => ?_, ?_⟩
  · have e := cpF_in (src := w) (off := 0) (f := now) 21 j (by omega)
    rw [Nat.zero_add] at e
    rw [e]; exact h.1 j hj
  · have e := cpF_in (src := w) (off := 0) (f := now) 21 20 (by omega)
    rw [Nat.zero_add] at e
    rw [e]; exact h.2
theorem agree_tables {L : Nat} {a b v ik now rv rd9 : Nat → Int32} {q8 ki k8 n8 ri rt rf rs um sm rA tA tk fA rI : Int32} (hL : L ≤ 60) (hab : txR L a b) : (∃ r e1 e2 e3 e4 e5 g1 g2 g3 g4 g5 g6, m_X8_tables (nI L) q8 ki k8 n8 ri rt rf a v rs rv = some (r, (nI L, q8, ki, k8, n8, e1, e2, e3, v, e4, e5)) ∧ m_X9_tables um sm (nI L) rA tA tk fA rI ik now rd9 b = some (r, (um, sm, nI L, g1, g2, g3, g4, g5, ik, now, g6))) ∨ (∃ r n' tv' v' w' ik' e1 e2 e3 e4 e5 g1 g2 g3 g4 g5 g6, m_X8_tables (nI L) q8 ki k8 n8 ri rt rf a v rs rv = some (r, (0, 0, 0, 0, nI n', e1, e2, e3, v', e4, e5)) ∧ m_X9_tables um sm (nI L) rA tA tk fA rI ik now rd9 b = some (r, (0, 0, 0, g1, g2, g3, g4, g5, ik', w', g6)) ∧ okT n' tv' ∧ asT v' tv' ∧ as21 w' tv' n' ∧ ik' 0 = 0 ∧ ik' 1 = 0) := by
  obtain ⟨p, h1, h2, h3⟩ := blanks_eq (b := b) (p := 0) hL (Nat.zero_le L)
  rw [show nI 0 = 0 from rfl] at h3
  have hw0 : as21 (upd (soX rd9 4) 20 (nI 2)) tv0 2 := begins_as
  have hall := items_go (um := um) (sm := sm) (ik := ik) (now := now) hL hab (L - p) p 0 rf 2 (soX rv 4) (upd (soX rd9 4) 20 (nI 2)) tv0 tA tk 1000 (Nat.le_refl _) (by omega) h1.2.1 h2 (by omega) (fun _ => hw0) (okT_0 (by decide) (by decide)) soX_as hw0
  have h8 : ∀ R, CR a L p (nI 0, 0, rf, nI 2, soX rv 4) R → m_X5_faultOf ri rt rf rs rv a (nI L) = some R := by
    intro R hR
    unfold m_X5_faultOf
    rw [startOver_eq, Option.bind_some]
    exact skp_CR hL hab h1 hR 1000 (by decide)
  unfold m_X8_tables m_X9_tables
  rw [begins_eq, Option.bind_some, h3, Option.bind_some]
  rcases hall with ⟨f, u, x, y, z, q, w', f60, h5, e5⟩ | ⟨it', fg2, n2, v2, w2, tv2, x, y, z, h5, e5, g3, g4, g5⟩
  · left
    rw [h8 _ h5]
    rw [show nI 0 = 0 from rfl, show nI 2 = 2 from rfl] at e5
    rw [e5]
    unfold bd2
    rw [Option.bind_some]
    dsimp only
    rw [if_neg (fun q => nI_pos (n := f) (by omega) (by rw [q]; decide))]
    exact ⟨_, _, _, _, _, _, _, _, _, _, _, _, rfl, rfl⟩
  · right
    rw [h8 _ h5]
    rw [show nI 0 = 0 from rfl, show nI 2 = 2 from rfl] at e5
    rw [e5]
    unfold bd2 bdS m_X2_loseAll
    simp only [Option.bind_some, Sum.elim_inr]
    rw [if_pos trivial, copy_def]
    simp only [Option.bind_some]
    rw [copy80]
    simp only [Option.bind_some]
    rw [wrI_eq (i := 0) (j := 0) rfl (by decide) (by decide), wrI_eq (i := 1) (j := 1) rfl (by decide) (by decide)]
    refine ⟨_, n2, tv2, _, cpF w2 0 now 21, upd (upd ik 0 0) 1 0, _, _, _, _, _, _, _, _, _, _, _, rfl, rfl, g3, copy_out g4, cpF_as g5, ?_, pk_us⟩
    rw [pk_un (by decide), pk_us]
