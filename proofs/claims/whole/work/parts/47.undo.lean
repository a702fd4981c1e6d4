/-! what can be undone: the class keeps places and values, the reference whole rows -/
def hR (n k a : Nat) (pl vl un : Nat → Int32) (tv : Nat → Nat) : Prop := a < 12 ∧ k ≤ 12 ∧ ∃ T : Nat → Nat → Nat, T 0 = tv ∧ ∀ j, j < k → okT n (T (j + 1)) ∧ (∃ p, p < 20 ∧ pl (k - 1 - j) = nI p ∧ vl (k - 1 - j) = nI (T (j + 1) p) ∧ ∀ i, i < 20 → i ≠ p → T (j + 1) i = T j i) ∧ rowAt un ((a + 11 - j) % 12) n (T (j + 1))
theorem hR_0 {n a : Nat} {pl vl un : Nat → Int32} {tv : Nat → Nat} (h : a < 12) : hR n 0 a pl vl un tv := ⟨h, by omega, fun _ => tv, rfl, fun j hj => by omega⟩
theorem rem12 {x : Nat} (h : x < 2 ^ 31) : nI x - nI x / 12 * 12 = nI (x % 12) := by
  rw [show (12 : Int32) = nI 12 from rfl]
  exact pk_rem h (by decide) (by decide)
theorem agree_undo {n k a : Nat} {pl vl un v w : Nat → Int32} {tv : Nat → Nat} (hT : okT n tv) (hv : asT v tv) (hw : as21 w tv n) (hh : hR n k a pl vl un tv) : ∃ r k' a' v' w' tv', m_X8_undo (nI k) pl vl v = some (r, (nI k', v')) ∧ m_X9_undo (nI k) (nI a) w un = some (r, (nI k', nI a', w')) ∧ okT n tv' ∧ asT v' tv' ∧ as21 w' tv' n ∧ hR n k' a' pl vl un tv' := by
  have hh0 := hh
  obtain ⟨ha, hk, T, hT0, hj⟩ := hh
  unfold m_X8_undo m_X9_undo
  by_cases h0 : k = 0
  · subst h0
    rw [if_pos (show nI 0 = 0 from rfl), if_pos (show nI 0 = 0 from rfl)]
    exact ⟨_, 0, a, v, w, tv, rfl, rfl, hT, hv, hw, hh0⟩
  · obtain ⟨t1, ⟨p, hp, p1, p2, p3⟩, row⟩ := hj 0 (by omega)
    rw [if_neg (nI_ne0 (by omega) (by omega)), if_neg (nI_ne0 (by omega) (by omega))]
    unfold m_X2_takeBackIn nm
    have h12 : ¬ (12 : Int32) < nI k := by
      have q : ¬ nI 12 < nI k := nI_nlt hk (by decide)
      exact q
    rw [if_neg (nI_nle (by omega) (by omega)), if_neg h12, show (1 : Int32) = nI 1 from rfl, pk_sub (by omega), rd_eq rfl (by omega) (by decide), rd_eq rfl (by omega) (by decide)]
    rw [show k - 1 = k - 1 - 0 by omega, p1, p2, put_eq hp, Option.bind_some, Option.bind_some, Nat.sub_zero]
    have e1 : nI a + 12 - nI 1 - (nI a + 12 - nI 1) / 12 * 12 = nI ((a + 11) % 12) := by
      rw [show (12 : Int32) = nI 12 from rfl, nI_add, pk_sub (by omega), show a + 12 - 1 = a + 11 by omega]
      exact rem12 (by omega)
    rw [e1]
    dsimp only
    rw [loadU (by omega), Option.bind_some]
    refine ⟨_, k - 1, (a + 11) % 12, _, _, T 1, rfl, rfl, t1, ?_, load_as (by rw [Nat.sub_zero] at row; exact row), ?_⟩
    · intro i hi
      by_cases e : i = p
      · subst e; rw [pk_us]
      · rw [pk_un e, p3 i hi e, hT0]; exact hv i hi
    · refine ⟨by omega, by omega, fun j => T (j + 1), rfl, fun j hj2 => ?_⟩
      obtain ⟨s1, ⟨q, hq, q1, q2, q3⟩, r2⟩ := hj (j + 1) (by omega)
      refine ⟨s1, ⟨q, hq, ?_, ?_, q3⟩, ?_⟩
      · rw [show k - 1 - 1 - j = k - 1 - (j + 1) by omega]; exact q1
      · rw [show k - 1 - 1 - j = k - 1 - (j + 1) by omega]; exact q2
      · rw [show ((a + 11) % 12 + 11 - j) % 12 = (a + 11 - (j + 1)) % 12 by omega]; exact r2
theorem okT_setG {n : Nat} {tv : Nat → Nat} (hT : okT n tv) {x c : Nat} (hx : x < n) (hc : c < n) : okT n (setT tv (16 + x) c) := by
  obtain ⟨h1, h4, hb, hf, hg⟩ := hT
  refine ⟨h1, h4, fun j hj => ?_, fun a b ha hb' => ?_, fun a ha => ?_⟩
  · unfold setT; split
    · omega
    · exact hb j hj
  · unfold setT; rw [if_neg (by omega)]
    exact hf a b ha hb'
  · unfold setT; split
    · exact hc
    · exact hg a ha
/-- the class notes a change -/
theorem note_eq {k : Nat} {pl vl : Nat → Int32} {x y : Int32} (hk : k ≤ 12) : ∃ pl' vl', m_X2_note (nI k) pl vl x y = some (nI (min (k + 1) 12), pl', vl') ∧ pl' (min (k + 1) 12 - 1) = x ∧ vl' (min (k + 1) 12 - 1) = y ∧ ∀ j, j + 1 < min (k + 1) 12 → pl' (min (k + 1) 12 - 1 - (j + 1)) = pl (k - 1 - j) ∧ vl' (min (k + 1) 12 - 1 - (j + 1)) = vl (k - 1 - j) := by
  unfold m_X2_note
  by_cases h : k < 12
  · rw [show (12 : Int32) = nI 12 from rfl, if_pos (nI_lt h (by decide))]
    unfold m_X2_note_j13
    rw [wrI_eq rfl h (by decide), wrI_eq rfl h (by decide), nI_1]
    have em : min (k + 1) 12 = k + 1 := by omega
    rw [em]
    refine ⟨_, _, rfl, ?_, ?_, fun j hj => ⟨?_, ?_⟩⟩
    · rw [Nat.add_sub_cancel, pk_us]
    · rw [Nat.add_sub_cancel, pk_us]
    · rw [pk_un (by omega), show k + 1 - 1 - (j + 1) = k - 1 - j by omega]
    · rw [pk_un (by omega), show k + 1 - 1 - (j + 1) = k - 1 - j by omega]
  · obtain rfl : k = 12 := by omega
    rw [show (12 : Int32) = nI 12 from rfl, if_neg (nI_nlt (Nat.le_refl 12) (by decide))]
    unfold m_X2_loseOldest nm
    rw [Option.bind_some]
    dsimp only
    unfold m_X2_note_j13
    rw [show (11 : Int32) = nI 11 from rfl, wrI_eq rfl (by decide) (by decide), wrI_eq rfl (by decide) (by decide), nI_1]
    refine ⟨_, _, rfl, ?_, ?_, fun j hj => ⟨?_, ?_⟩⟩
    · show upd _ 11 x 11 = x
      rw [pk_us]
    · show upd _ 11 y 11 = y
      rw [pk_us]
    · have hj : j + 1 < 12 := hj
      show upd _ 11 x (11 - (j + 1)) = _
      rw [pk_un (by omega), pk_cpy_in (by omega) (by omega)]
      congr 1
      omega
    · have hj : j + 1 < 12 := hj
      show upd _ 11 y (11 - (j + 1)) = _
      rw [pk_un (by omega), pk_cpy_in (by omega) (by omega)]
      congr 1
      omega
theorem agree_setsAt {n k a p c : Nat} {pl vl un v w : Nat → Int32} {tv : Nat → Nat} (hT : okT n tv) (hv : asT v tv) (hw : as21 w tv n) (hh : hR n k a pl vl un tv) (hp : p < 20) (hc : c < 4) (hT2 : okT n (setT tv p c)) : ∃ r k' a' pl' vl' un' v' w' tv', m_X8_sets_j58 (nI c) (nI p) (nI k) pl vl v = some (r, (nI k', pl', vl', v')) ∧ m_X9_sets_j49 (nI c) (nI p) (nI k) (nI a) w un = some (r, (nI k', nI a', w', un')) ∧ okT n tv' ∧ asT v' tv' ∧ as21 w' tv' n ∧ hR n k' a' pl' vl' un' tv' := by
  have hh0 := hh
  obtain ⟨ha, hk, T, hT0, hj⟩ := hh
  unfold m_X8_sets_j58 m_X9_sets_j49
  rw [at_eq hp, Option.bind_some, hv p hp, rd_eq rfl (by omega) (by decide), hw.1 p hp]
  have hi := nI4 _ (hT.2.2.1 p hp) c hc
  by_cases e : tv p = c
  · rw [if_pos (hi.mpr e), if_pos (hi.mpr e)]
    exact ⟨_, k, a, pl, vl, un, v, w, tv, rfl, rfl, hT, hv, hw, hh0⟩
  · rw [if_neg (fun q => e (hi.mp q)), if_neg (fun q => e (hi.mp q))]
    obtain ⟨pl', vl', e1, e2, e3, e4⟩ := note_eq (k := k) (pl := pl) (vl := vl) (x := nI p) (y := nI (tv p)) hk
    rw [e1, Option.bind_some, put_eq hp, Option.bind_some, saveU ha, Option.bind_some]
    unfold nm
    rw [nI_1, rem12 (by omega)]
    have em : ∀ (un' : Nat → Int32), (if 12 ≤ nI k then m_X9_sets_j139 (nI c) (nI p) (nI (tv p)) (nI k) 0 (nI k) (nI ((a + 1) % 12)) w un' else m_X9_sets_j139 (nI c) (nI p) (nI (tv p)) (nI k) 1 (nI k) (nI ((a + 1) % 12)) w un') = some (nI (tv p), (nI (min (k + 1) 12), nI ((a + 1) % 12), upd w p (nI c), un')) := by
      intro un'
      unfold m_X9_sets_j139
      by_cases h : k < 12
      · rw [show (12 : Int32) = nI 12 from rfl, if_neg (nI_ge h (by decide)), nI_1, show min (k + 1) 12 = k + 1 by omega, wrI_eq rfl (by omega) (by decide)]
      · obtain rfl : k = 12 := by omega
        rw [show (12 : Int32) = nI 12 from rfl, if_pos (nI_le (Nat.le_refl 12) (by decide)), wrI_eq rfl (by omega) (by decide)]
        rfl
    dsimp only
    rw [em]
    refine ⟨_, _, _, _, _, _, _, _, setT tv p c, rfl, rfl, hT2, asT_upd (fun j hj _ => hv j hj), ⟨asT_upd (fun j hj _ => hw.1 j hj), by rw [pk_un (by omega)]; exact hw.2⟩, ?_⟩
    refine ⟨by omega, by omega, fun j => match j with | 0 => setT tv p c | j + 1 => T j, rfl, fun j hj2 => ?_⟩
    cases j with
    | zero =>
      refine ⟨by show okT n (T 0); rw [hT0]; exact hT, ⟨p, hp, ?_, ?_, fun i hi hne => ?_⟩, ?_⟩
      · rw [Nat.sub_zero]; exact e2
      · rw [Nat.sub_zero, e3]
        show nI (tv p) = nI (T 0 p)
        rw [hT0]
      · show T 0 i = setT tv p c i
        rw [hT0, setT, if_neg hne]
      · show rowAt _ _ n (T 0)
        rw [hT0, show ((a + 1) % 12 + 11 - 0) % 12 = a by omega]
        exact save_row hw
    | succ j =>
      obtain ⟨s1, ⟨q, hq, q1, q2, q3⟩, r2⟩ := hj j (by omega)
      obtain ⟨f1, f2⟩ := e4 j (by omega)
      refine ⟨s1, ⟨q, hq, by rw [f1]; exact q1, by rw [f2]; exact q2, q3⟩, ?_⟩
      rw [show ((a + 1) % 12 + 11 - (j + 1)) % 12 = (a + 11 - j) % 12 by omega]
      exact save_other r2 (by omega)
/-! promise 7 -/
theorem m1_cases {n : Nat} (h1 : 1 ≤ n) (h4 : n ≤ 4) (y : Int32) : (y = -1 ∧ m_X9_in y (-1) (nI n - 1) = some 1) ∨ (∃ b, b < n ∧ y = nI b ∧ ¬ y = -1 ∧ m_X6_has (nI n) y = some 1 ∧ m_X9_in y (-1) (nI n - 1) = some 1) ∨ (¬ y = -1 ∧ m_X6_has (nI n) y = some 0 ∧ m_X9_in y (-1) (nI n - 1) = some 0) := by
  have hs : nI n - 1 = nI (n - 1) := by rw [show (1 : Int32) = nI 1 from rfl, pk_sub h1]
  rw [in_eq, hs]
  by_cases e : y = -1
  · left
    subst e
    refine ⟨rfl, ?_⟩
    rw [if_neg (by decide), if_neg (fun q => ?_)]
    · have : nI (n - 1) < -1 := q
      rcases (show n - 1 = 0 ∨ n - 1 = 1 ∨ n - 1 = 2 ∨ n - 1 = 3 by omega) with h | h | h | h <;> rw [h] at this <;> revert this <;> decide
  · right
    unfold m_X6_has
    by_cases h0 : y < 0
    · right
      have hlt : y < -1 := by
        rw [Int32.lt_iff_toInt_lt] at h0 ⊢
        have : y.toInt ≠ (-1 : Int32).toInt := fun q => e (Int32.toInt_inj.mp q)
        have e1 : (-1 : Int32).toInt = -1 := rfl
        have e0 : (0 : Int32).toInt = 0 := rfl
        rw [e1] at this ⊢
        rw [e0] at h0
        omega
      exact ⟨e, by rw [if_pos h0], by rw [if_pos hlt]⟩
    · obtain ⟨b, hb, rfl⟩ := nI_of h0
      have hge : ¬ nI b < -1 := fun q => h0 (Int32.lt_trans q (by decide))
      rw [if_neg h0, if_neg hge]
      by_cases hc : b < n
      · left
        exact ⟨b, hc, rfl, e, by rw [if_neg (nI_ge hc (by omega))], by rw [if_neg (nI_nlt (by omega) (by omega))]⟩
      · right
        exact ⟨e, by rw [if_pos (nI_le (by omega) hb)], by rw [if_pos (nI_lt (by omega) hb)]⟩
theorem agree_sets {n k a : Nat} {pl vl un v w : Nat → Int32} {tv : Nat → Nat} (hT : okT n tv) (hv : asT v tv) (hw : as21 w tv n) (hh : hR n k a pl vl un tv) (x y z : Int32) : ∃ r k' a' pl' vl' un' v' w' tv', m_X8_sets (nI k) (nI n) pl vl v x y z = some (r, (nI k', pl', vl', v')) ∧ m_X9_sets (nI k) (nI a) w un x y z = some (r, (nI k', nI a', w', un')) ∧ okT n tv' ∧ asT v' tv' ∧ as21 w' tv' n ∧ hR n k' a' pl' vl' un' tv' := by
  have h1 := hT.1
  have h4 := hT.2.1
  unfold m_X8_sets m_X9_sets m_X8_sets_j41
  rw [size_eq hw.2, Option.bind_some]
  rcases is_eq hw.2 h1 h4 x with ⟨b, hb, rfl, e1, e2⟩ | ⟨e1, e2⟩
  · rw [e1, e2, Option.bind_some, Option.bind_some, if_neg one_ne0, if_neg one_ne0]
    rcases is_eq hw.2 h1 h4 z with ⟨c, hc, rfl, e3, e4⟩ | ⟨e3, e4⟩
    · rw [e3, e4, Option.bind_some, Option.bind_some, if_neg one_ne0, if_neg one_ne0]
      rcases m1_cases h1 h4 y with ⟨rfl, i1⟩ | ⟨d, hd, rfl, hne, i1, i2⟩ | ⟨hne, i1, i2⟩
      · rw [i1, Option.bind_some, if_neg one_ne0, if_pos rfl, if_pos rfl, if_neg (show ¬ (0 : Int32) ≤ -1 by decide), place1 b (by omega), Option.bind_some, show (16 : Int32) = nI 16 from rfl, nI_add]
        exact agree_setsAt hT hv hw hh (by omega) (by omega) (okT_setG hT hb hc)
      · rw [i1, i2, Option.bind_some, Option.bind_some, if_neg one_ne0, if_neg hne, if_neg hne, if_neg one_ne0, if_pos (nI_pos' (by omega)), place2 b (by omega) d (by omega), Option.bind_some, show (4 : Int32) = nI 4 from rfl, pk_mul, nI_add]
        exact agree_setsAt hT hv hw hh (by omega) (by omega) (okT_set hT hb hd hc)
      · rw [i1, i2, Option.bind_some, Option.bind_some, if_pos rfl, if_neg hne, if_pos rfl]
        exact ⟨_, k, a, pl, vl, un, v, w, tv, rfl, rfl, hT, hv, hw, hh⟩
    · rw [e3, e4, Option.bind_some, Option.bind_some, if_pos rfl, if_pos rfl]
      rcases m1_cases h1 h4 y with ⟨rfl, i1⟩ | ⟨d, hd, rfl, hne, i1, i2⟩ | ⟨hne, i1, i2⟩
      · rw [i1, Option.bind_some, if_neg one_ne0]
        exact ⟨_, k, a, pl, vl, un, v, w, tv, rfl, rfl, hT, hv, hw, hh⟩
      · rw [i2, Option.bind_some, if_neg one_ne0]
        exact ⟨_, k, a, pl, vl, un, v, w, tv, rfl, rfl, hT, hv, hw, hh⟩
      · rw [i2, Option.bind_some, if_pos rfl]
        exact ⟨_, k, a, pl, vl, un, v, w, tv, rfl, rfl, hT, hv, hw, hh⟩
  · rw [e1, e2, Option.bind_some, Option.bind_some, if_pos rfl, if_pos rfl]
    exact ⟨_, k, a, pl, vl, un, v, w, tv, rfl, rfl, hT, hv, hw, hh⟩
