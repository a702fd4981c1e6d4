/-! images -/
def imR (s : Int32) (v kp : Nat → Int32) (r : Nat) : Prop := ∃ n tv, okT n tv ∧ s = nI n ∧ asT v tv ∧ rowAt kp r n tv
def kR (ki s0 s1 : Int32) (v0 v1 ik kp : Nat → Int32) : Prop := ∃ b0 b1 : Bool, ki = nI (b0.toNat + 2 * b1.toNat) ∧ ik 0 = bI b0 ∧ ik 1 = bI b1 ∧ (b0 = true → imR s0 v0 kp 0) ∧ (b1 = true → imR s1 v1 kp 1)
theorem k_or0 (b0 b1 : Bool) : nI (b0.toNat + 2 * b1.toNat) ||| ((1 : Int32) <<< (nI 0 &&& 31)) = nI (true.toNat + 2 * b1.toNat) := by cases b0 <;> cases b1 <;> decide
theorem k_or1 (b0 b1 : Bool) : nI (b0.toNat + 2 * b1.toNat) ||| ((1 : Int32) <<< (nI 1 &&& 31)) = nI (b0.toNat + 2 * true.toNat) := by cases b0 <;> cases b1 <;> decide
theorem k_at0 (b0 b1 : Bool) : (nI (b0.toNat + 2 * b1.toNat) >>> (nI 0 &&& 31)) &&& 1 = bI b0 := by cases b0 <;> cases b1 <;> decide
theorem k_at1 (b0 b1 : Bool) : (nI (b0.toNat + 2 * b1.toNat) >>> (nI 1 &&& 31)) &&& 1 = bI b1 := by cases b0 <;> cases b1 <;> decide
theorem copy_out {f g : Nat → Int32} {tv : Nat → Nat} (hg : asT g tv) : asT (va_cpy g f 0 0 20) tv := by
  intro j hj
  rw [pk_cpy_in (by omega) (by omega), Nat.zero_add, Nat.sub_zero]
  exact hg j hj
theorem copy_def {s1 s2 : Int32} {f g : Nat → Int32} : m_X6_copyFrom s1 f s2 g = some (s2, va_cpy g f 0 0 20) := rfl
/-! promise 21 -/
theorem agree_keep {n : Nat} {v w v0 v1 ik kp : Nat → Int32} {ki s0 s1 : Int32} {tv : Nat → Nat} (hT : okT n tv) (hv : asT v tv) (hw : as21 w tv n) (hk : kR ki s0 s1 v0 v1 ik kp) (x : Int32) : ∃ r ki' s0' s1' v0' v1' ik' kp', m_X8_keep ki (nI n) s0 s1 v v0 v1 x = some (r, (ki', s0', s1', v0', v1')) ∧ m_X9_keep ik kp w x = some (r, (ik', kp')) ∧ kR ki' s0' s1' v0' v1' ik' kp' := by
  have hk0 := hk
  obtain ⟨b0, b1, e0, e1, e2, e3, e4⟩ := hk
  unfold m_X8_keep m_X9_keep
  have hin : m_X9_in x 0 1 = _ := in_eq
  by_cases h0 : x < 0
  · rw [if_pos h0, hin, if_pos h0, Option.bind_some, if_pos rfl]
    exact ⟨_, _, _, _, _, _, _, _, rfl, rfl, hk0⟩
  · obtain ⟨c, hc, rfl⟩ := nI_of h0
    rw [if_neg h0, hin, if_neg h0]
    by_cases h2 : c < 2
    · rw [show (2 : Int32) = nI 2 from rfl, if_pos (nI_lt h2 (by decide)), show (1 : Int32) = nI 1 from rfl, if_neg (nI_nlt (by omega) (by decide)), Option.bind_some, if_neg (show ¬ nI 1 = 0 by decide), wrI_eq rfl h2 (by decide), saveK h2, Option.bind_some, size_eq hw.2, Option.bind_some]
      rcases (show c = 0 ∨ c = 1 by omega) with rfl | rfl
      · rw [if_pos (show nI 0 = 0 from rfl), copy_def, Option.bind_some]
        unfold nm
        dsimp only
        rw [e0, show nI 1 = (1 : Int32) from rfl, k_or0]
        refine ⟨_, _, _, _, _, _, _, _, rfl, rfl, true, b1, rfl, ?_, ?_, fun _ => ?_, fun h => ?_⟩
        · rw [pk_us]; rfl
        · rw [pk_un (by decide)]; exact e2
        · exact ⟨n, tv, hT, rfl, copy_out hv, save_row hw⟩
        · obtain ⟨m, tm, q1, q2, q3, q4⟩ := e4 h
          exact ⟨m, tm, q1, q2, q3, save_other q4 (by decide)⟩
      · rw [if_neg (show ¬ nI 1 = 0 by decide), copy_def, Option.bind_some]
        unfold nm gd
        dsimp only
        rw [if_pos rfl, e0, show nI 1 = (1 : Int32) from rfl]
        have k1 := k_or1 b0 b1
        rw [show nI 1 = (1 : Int32) from rfl] at k1
        rw [k1]
        refine ⟨_, _, _, _, _, _, _, _, rfl, rfl, b0, true, rfl, ?_, ?_, fun h => ?_, fun _ => ?_⟩
        · rw [pk_un (by decide)]; exact e1
        · rw [pk_us]; rfl
        · obtain ⟨m, tm, q1, q2, q3, q4⟩ := e3 h
          exact ⟨m, tm, q1, q2, q3, save_other q4 (by decide)⟩
        · exact ⟨n, tv, hT, rfl, copy_out hv, save_row hw⟩
    · rw [show (2 : Int32) = nI 2 from rfl, if_neg (nI_nlt (by omega) hc), show (1 : Int32) = nI 1 from rfl, if_pos (nI_lt (by omega) hc), Option.bind_some, if_pos rfl]
      exact ⟨_, _, _, _, _, _, _, _, rfl, rfl, hk0⟩
/-! promise 22 -/
theorem agree_back {n k : Nat} {v w v0 v1 ik kp : Nat → Int32} {ki s0 s1 : Int32} {tv : Nat → Nat} (hT : okT n tv) (hv : asT v tv) (hw : as21 w tv n) (hk : kR ki s0 s1 v0 v1 ik kp) (x : Int32) : ∃ r k' n' tv' v' w', m_X8_back ki (nI k) (nI n) s0 s1 v v0 v1 x = some (r, (nI k', nI n', v')) ∧ m_X9_back (nI k) ik kp w x = some (r, (nI k', w')) ∧ okT n' tv' ∧ asT v' tv' ∧ as21 w' tv' n' ∧ (k' = 0 ∨ (k' = k ∧ n' = n ∧ tv' = tv)) := by
  obtain ⟨b0, b1, e0, e1, e2, e3, e4⟩ := hk
  unfold m_X8_back m_X9_back
  have hin : m_X9_in x 0 1 = _ := in_eq
  by_cases h0 : x < 0
  · rw [if_pos h0, hin, if_pos h0, Option.bind_some, if_pos rfl]
    exact ⟨_, k, n, tv, v, w, rfl, rfl, hT, hv, hw, Or.inr ⟨rfl, rfl, rfl⟩⟩
  · obtain ⟨c, hc, rfl⟩ := nI_of h0
    rw [if_neg h0, hin, if_neg h0]
    by_cases h2 : c < 2
    · rw [show (2 : Int32) = nI 2 from rfl, if_pos (nI_lt h2 (by decide)), if_neg (show ¬ (1 : Int32) < nI c from nI_nlt (b := c) (a := 1) (by omega) (by decide)), Option.bind_some, if_neg one_ne0, rd_eq rfl h2 (by decide), e0]
      rcases (show c = 0 ∨ c = 1 by omega) with rfl | rfl
      · rw [k_at0, e1]
        cases b0
        · rw [if_pos (show bI false = 0 from rfl), if_pos (show bI false = 0 from rfl)]
          exact ⟨_, k, n, tv, v, w, rfl, rfl, hT, hv, hw, Or.inr ⟨rfl, rfl, rfl⟩⟩
        · obtain ⟨m, tm, q1, q2, q3, q4⟩ := e3 rfl
          have hl := load_as (w := w) q4
          rw [if_neg (show ¬ bI true = 0 by decide), if_neg (show ¬ bI true = 0 by decide), if_pos (show nI 0 = 0 from rfl), copy_def, Option.bind_some, loadK (im := 0) (by decide), Option.bind_some, size_eq hl.2, Option.bind_some, q2]
          exact ⟨_, 0, m, tm, _, _, rfl, rfl, q1, copy_out q3, hl, Or.inl rfl⟩
      · rw [k_at1, e2]
        cases b1
        · rw [if_pos (show bI false = 0 from rfl), if_pos (show bI false = 0 from rfl)]
          exact ⟨_, k, n, tv, v, w, rfl, rfl, hT, hv, hw, Or.inr ⟨rfl, rfl, rfl⟩⟩
        · obtain ⟨m, tm, q1, q2, q3, q4⟩ := e4 rfl
          have hl := load_as (w := w) q4
          unfold gd
          rw [if_neg (show ¬ bI true = 0 by decide), if_neg (show ¬ bI true = 0 by decide), if_neg (show ¬ nI 1 = 0 by decide), if_pos (show nI 1 = 1 from rfl), copy_def, Option.bind_some, loadK (im := 1) (by decide), Option.bind_some, size_eq hl.2, Option.bind_some, q2]
          exact ⟨_, 0, m, tm, _, _, rfl, rfl, q1, copy_out q3, hl, Or.inl rfl⟩
    · rw [show (2 : Int32) = nI 2 from rfl, if_neg (nI_nlt (by omega) hc), if_pos (show (1 : Int32) < nI c from nI_lt (a := 1) (by omega) hc), Option.bind_some, if_pos rfl]
      exact ⟨_, k, n, tv, v, w, rfl, rfl, hT, hv, hw, Or.inr ⟨rfl, rfl, rfl⟩⟩
/-! promise 23 -/
theorem agree_count {n l q k : Nat} {v w : Nat → Int32} {tv : Nat → Nat} (hT : okT n tv) (hv : asT v tv) (hw : as21 w tv n) (f0 s0 m0 : Int32) (p0 q0 : Nat → Int32) (x : Int32) : ∃ r u u', m_X8_count (nI l) (nI q) f0 s0 (nI k) (nI n) p0 v x = some (r, u) ∧ m_X9_count (nI k) (nI q) (nI l) m0 q0 w x = some (r, u') := by
  unfold m_X8_count m_X9_count
  by_cases h0 : x = 0
  · rw [if_pos h0, if_pos h0, size_eq hw.2, Option.bind_some]
    exact ⟨_, _, _, rfl, rfl⟩
  rw [if_neg h0, if_neg h0]
  by_cases h1 : x = 1
  · rw [if_pos h1, if_pos h1, howMany_eq hT hv, closedOf_neg hT hw.1 hw.2, Option.bind_some, Option.bind_some]
    exact ⟨_, _, _, rfl, rfl⟩
  rw [if_neg h1, if_neg h1]
  by_cases h2 : x = 2
  · obtain ⟨p, hp, e1⟩ := seekIn_eq hT hv f0 s0 p0
    obtain ⟨p', hp', e2⟩ := lay_eq hT hw.1 hw.2 m0 q0
    rw [if_pos h2, if_pos h2, e1, e2, Option.bind_some, Option.bind_some]
    exact ⟨_, _, _, rfl, rfl⟩
  rw [if_neg h2, if_neg h2]
  by_cases h3 : x = 3
  · rw [if_pos h3, if_pos h3, thatHold_eq hT hv, holding_eq hT hw.1 hw.2, Option.bind_some, Option.bind_some]
    exact ⟨_, _, _, rfl, rfl⟩
  rw [if_neg h3, if_neg h3]
  have m4 := maps4_eq hT hv false
  have m9 := maps9_eq hT hw.1 hw.2 false
  have n4 := maps4_eq hT hv true
  have n9 := maps9_eq hT hw.1 hw.2 true
  rw [show bI false = 0 from rfl] at m4 m9
  rw [show bI true = 1 from rfl] at n4 n9
  by_cases h5 : x = 4
  · rw [if_pos h5, if_pos h5, m4, m9, Option.bind_some, Option.bind_some]
    exact ⟨_, _, _, rfl, rfl⟩
  rw [if_neg h5, if_neg h5]
  by_cases h6 : x = 5
  · rw [if_pos h6, if_pos h6, n4, n9, Option.bind_some, Option.bind_some]
    exact ⟨_, _, _, rfl, rfl⟩
  rw [if_neg h6, if_neg h6]
  by_cases h7 : x = 6
  · rw [if_pos h7, if_pos h7]
    exact ⟨_, _, _, rfl, rfl⟩
  rw [if_neg h7, if_neg h7]
  by_cases h8 : x = 7
  · rw [if_pos h8, if_pos h8]
    exact ⟨_, _, _, rfl, rfl⟩
  rw [if_neg h8, if_neg h8]
  by_cases h9 : x = 8
  · rw [if_pos h9, if_pos h9]
    exact ⟨_, _, _, rfl, rfl⟩
  rw [if_neg h9, if_neg h9]
  exact ⟨_, _, _, rfl, rfl⟩
