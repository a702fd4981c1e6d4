/-! maps: two bits for each element -/
def dg (h x : Nat) : Nat := h / 4 ^ x % 4
theorem of_eq : ∀ h, h < 256 → ∀ x, x < 4 → m_X4_of (nI h) (nI x) = some (nI (dg h x)) := by decide +kernel
theorem to_eq : ∀ h, h < 256 → ∀ x, x < 4 → m_X9_to (nI h) (nI x) = some (nI (dg h x)) := by decide +kernel
theorem dg_lt (h x : Nat) : dg h x < 4 := Nat.mod_lt _ (by decide)
def insN (n h : Nat) : Bool := allN (fun x => if x < n then decide (dg h x < n) else dg h x == 0) 4
def onN (n h : Nat) : Bool := (m_X4_isOnto (nI n) (nI h)).getD 0 == 1
def metI (n h : Nat) : Int32 := (lp (fun q : (Int32 × Int32) => m_X9_maps_s17 (fun _ => nI n) (nI h) q.1 q.2) 1000 (0, 0)).getD 0
theorem inside_fin0 : ∀ n, n < 5 → ∀ h, h < 256 → (!decide (h < 4 ^ n) || decide (m_X4_isInside (nI n) (nI h) = some (bI (insN n h)))) = true := by decide +kernel
theorem p4le : ∀ n, n < 5 → 4 ^ n ≤ 256 := by decide +kernel
theorem inside_fin (n : Nat) (hn : n < 5) (h : Nat) (hh : h < 4 ^ n) : m_X4_isInside (nI n) (nI h) = some (bI (insN n h)) := of_decide_eq_true (orN (inside_fin0 n hn h (Nat.lt_of_lt_of_le hh (p4le n hn))) (decide_eq_true hh))
theorem onto_fin0 : ∀ n, n < 5 → ∀ h, h < 256 → (!decide (h < 4 ^ n) || decide (m_X4_isOnto (nI n) (nI h) = some (bI (onN n h)))) = true := by decide +kernel
theorem onto_fin (n : Nat) (hn : n < 5) (h : Nat) (hh : h < 4 ^ n) : m_X4_isOnto (nI n) (nI h) = some (bI (onN n h)) := of_decide_eq_true (orN (onto_fin0 n hn h (Nat.lt_of_lt_of_le hh (p4le n hn))) (decide_eq_true hh))
theorem ins_far0 : ∀ n, n < 5 → ∀ h, h < 256 → (!decide (4 ^ n ≤ h) || !insN n h) = true := by decide +kernel
theorem ins_far (n : Nat) (hn : n < 5) (h : Nat) (hh : h < 256) (hf : 4 ^ n ≤ h) : insN n h = false := by
  have q := orN (ins_far0 n hn h hh) (decide_eq_true hf)
  simpa using q
theorem ins_dg0 : ∀ n, n < 5 → ∀ h, h < 256 → ∀ x, x < 4 → (!(decide (x < n) && insN n h) || decide (dg h x < n)) = true := by decide +kernel
theorem ins_dg (n : Nat) (hn : n < 5) (h : Nat) (hh : h < 256) (hi : insN n h = true) (x : Nat) (hx : x < n) : dg h x < n := of_decide_eq_true (orN (ins_dg0 n hn h hh x (by omega)) (by rw [hi, decide_eq_true hx]; rfl))
theorem first_fin : ∀ n, n < 5 → ∀ h, h < 256 → lp (fun q : (Int32 × Int32) => m_X9_isMap_s4 (fun _ => nI n) (nI h) q.1 q.2) 1000 (1, 0) = some (bI (insN n h)) := by decide +kernel
theorem met_fin0 : ∀ n, n < 5 → ∀ h, h < 256 → (decide (lp (fun q : (Int32 × Int32) => m_X9_maps_s17 (fun _ => nI n) (nI h) q.1 q.2) 1000 (0, 0) = some (metI n h)) && (!insN n h || (decide (metI n h = nI (2 ^ n) - 1) == onN n h))) = true := by decide +kernel
theorem met_fin (n : Nat) (hn : n < 5) (h : Nat) (hh : h < 256) : lp (fun q : (Int32 × Int32) => m_X9_maps_s17 (fun _ => nI n) (nI h) q.1 q.2) 1000 (0, 0) = some (metI n h) ∧ (insN n h = true → ((metI n h = nI (2 ^ n) - 1) ↔ onN n h = true)) := by
  have q := met_fin0 n hn h hh
  rw [Bool.and_eq_true] at q
  refine ⟨of_decide_eq_true q.1, fun hi => ?_⟩
  have q2 := orN q.2 hi
  rw [beq_iff_eq] at q2
  rw [← q2, decide_eq_true_eq]
theorem first_eq {n h : Nat} {v : Nat → Int32} (hz : v 20 = nI n) (h4 : n ≤ 4) (hh : h < 256) : lp (fun q : (Int32 × Int32) => m_X9_isMap_s4 v (nI h) q.1 q.2) 1000 (1, 0) = some (bI (insN n h)) := by
  rw [← first_fin n (by omega) h hh]
  have e : (fun q : (Int32 × Int32) => m_X9_isMap_s4 v (nI h) q.1 q.2) = (fun q : (Int32 × Int32) => m_X9_isMap_s4 (fun _ => nI n) (nI h) q.1 q.2) := by
    funext q
    unfold m_X9_isMap_s4
    rw [size_eq hz, size_eq (v := fun _ => nI n) rfl]
  rw [e]
theorem met_eq {n h : Nat} {v : Nat → Int32} (hz : v 20 = nI n) (h4 : n ≤ 4) (hh : h < 256) : lp (fun q : (Int32 × Int32) => m_X9_maps_s17 v (nI h) q.1 q.2) 1000 (0, 0) = some (metI n h) := by
  rw [← (met_fin n (by omega) h hh).1]
  have e : (fun q : (Int32 × Int32) => m_X9_maps_s17 v (nI h) q.1 q.2) = (fun q : (Int32 × Int32) => m_X9_maps_s17 (fun _ => nI n) (nI h) q.1 q.2) := by
    funext q
    unfold m_X9_maps_s17
    rw [size_eq hz, size_eq (v := fun _ => nI n) rfl]
  rw [e]
/-- a flag, and an end as soon as it is 0 -/
theorem lp_andE {step : (Int32 × Int32) → Option ((Int32 × Int32) ⊕ Int32)} (P : Nat → Bool) (e : Nat) (he : e < 999) (b : Bool) (hs : ∀ k, k < e → step (bI true, nI k) = some (.inl (bI (P k), nI (k + 1)))) (hx : step (bI true, nI e) = some (.inr (bI true))) (hf : ∀ k, step (bI false, nI k) = some (.inr (bI false))) : lp step 1000 (bI b, 0) = some (bI (b && allN P e)) := by
  have key : ∀ d k N, k + d = e → d + 1 < N → lp step N (bI true, nI k) = some (bI (allF P d k)) := by
    intro d
    induction d with
    | zero =>
      intro k N hk hN
      obtain ⟨N, rfl⟩ : ∃ M, N = M + 1 := ⟨N - 1, by omega⟩
      obtain rfl : k = e := by omega
      rw [lp_exit hx]
      rfl
    | succ d ih =>
      intro k N hk hN
      obtain ⟨N, rfl⟩ : ∃ M, N = M + 2 := ⟨N - 2, by omega⟩
      have h1 := hs k (by omega)
      cases hp : P k
      · rw [hp] at h1
        rw [lp_succ h1, lp_exit (hf (k + 1)), allF, hp, Bool.false_and]
      · rw [hp] at h1
        rw [lp_succ h1, ih (k + 1) (N + 1) (by omega) (by omega), allF, hp, Bool.true_and]
  cases b
  · rw [show (0 : Int32) = nI 0 from rfl, show (1000 : Nat) = 999 + 1 from rfl, lp_exit (hf 0)]; rfl
  · rw [show (0 : Int32) = nI 0 from rfl, key e 0 1000 (by omega) (by omega), Bool.true_and, allF_N]
def alY (tv : Nat → Nat) (h x y : Nat) : Bool := dg h (tv (4 * x + y)) == tv (4 * dg h x + dg h y)
def alX (tv : Nat → Nat) (n h x : Nat) : Bool := dg h (tv (16 + x)) == tv (16 + dg h x) && allN (alY tv h x) n
def alM (tv : Nat → Nat) (n h : Nat) : Bool := allN (alX tv n h) n
theorem eq_bI {a b : Nat} (ha : a < 4) (hb : b < 4) {α : Type} {s t : α} : (if nI a = nI b then s else t) = (if (a == b) = true then s else t) := by
  by_cases e : a = b
  · subst e; simp
  · rw [if_neg (fun q => e ((nI4 a ha b hb).mp q)), if_neg (by simpa using e)]
theorem along4_eq {n h : Nat} {v : Nat → Int32} {tv : Nat → Nat} (hT : okT n tv) (hv : asT v tv) (hh : h < 256) (hd : ∀ x, x < n → dg h x < n) : m_X4_goesAlong (nI n) v (nI h) = some (bI (alM tv n h)) := by
  obtain ⟨h1, h4, hb, hf, hg⟩ := hT
  unfold m_X4_goesAlong
  refine all_bd (alX tv n h) n (by omega) (fun x hx => ?_) ?_
  · show m_X4_goesAlong_s2 (nI n) v (nI h) (nI x) = _
    have dx := hd x hx
    unfold m_X4_goesAlong_s2
    rw [if_neg (nI_ge hx (by omega)), one_eq hv (by omega), Option.bind_some, of_eq h hh _ (by have := hg x hx; omega), Option.bind_some, of_eq h hh x (by omega), Option.bind_some, one_eq hv (by omega), Option.bind_some, nI_1, eq_bI (dg_lt _ _) (by have := hg _ dx; omega)]
    unfold alX
    cases ha : (dg h (tv (16 + x)) == tv (16 + dg h x))
    · rfl
    · rw [if_pos rfl, Bool.true_and]
      refine all_bdS (alY tv h x) n (by omega) (fun y hy => ?_) ?_
      · show m_X4_goesAlong_s35 (nI n) v (nI h) (nI x) (nI y) = _
        have dy := hd y hy
        unfold m_X4_goesAlong_s35
        rw [if_neg (nI_ge hy (by omega)), two_eq hv (by omega) (by omega), Option.bind_some, of_eq h hh _ (by have := hf x y hx hy; omega), Option.bind_some, of_eq h hh x (by omega), Option.bind_some, of_eq h hh y (by omega), Option.bind_some, two_eq hv (by omega) (by omega), Option.bind_some, nI_1, eq_bI (dg_lt _ _) (by have := hf _ _ dx dy; omega)]
        unfold alY
        split <;> rfl
      · show m_X4_goesAlong_s35 (nI n) v (nI h) (nI x) (nI n) = _
        unfold m_X4_goesAlong_s35
        rw [if_pos (nI_le (Nat.le_refl n) (by omega))]
  · show m_X4_goesAlong_s2 (nI n) v (nI h) (nI n) = _
    unfold m_X4_goesAlong_s2
    rw [if_pos (nI_le (Nat.le_refl n) (by omega))]
theorem isMap_eq {n h : Nat} {v : Nat → Int32} {tv : Nat → Nat} (hT : okT n tv) (hv : asT v tv) (hz : v 20 = nI n) (hh : h < 256) : m_X9_isMap v (nI h) = some (bI (insN n h && alM tv n h)) := by
  have hT0 := hT
  obtain ⟨h1, h4, hb, hf, hg⟩ := hT
  unfold m_X9_isMap
  rw [first_eq hz h4 hh, Option.bind_some]
  cases hi : insN n h
  · have e : lp (fun q : (Int32 × Int32) => m_X9_isMap_s58 v (nI h) q.1 q.2) 1000 (bI false, 0) = some (bI false) := by
      rw [show (1000 : Nat) = 999 + 1 from rfl]
      refine lp_exit ?_
      rfl
    rw [e]
    rfl
  · have hd := ins_dg n (by omega) h hh hi
    have e100 : ∀ x b, x < n → lp (fun q : (Int32 × Int32) => m_X9_isMap_s100 v (nI h) (nI x) q.1 q.2) 1000 (bI b, 0) = some (bI (b && allN (alY tv h x) n)) := by
      intro x b hx
      have dx := hd x hx
      refine lp_andE (alY tv h x) n (by omega) b (fun y hy => ?_) ?_ (fun k => rfl)
      · show m_X9_isMap_s100 v (nI h) (nI x) (bI true) (nI y) = _
        have dy := hd y hy
        unfold m_X9_isMap_s100
        rw [if_neg (show ¬ bI true = 0 by decide), size_eq hz, Option.bind_some, if_neg (nI_ge hy (by omega)), ff_eq hv (by omega) (by omega), Option.bind_some, to_eq h hh _ (by have := hf x y hx hy; omega), Option.bind_some, to_eq h hh x (by omega), Option.bind_some, to_eq h hh y (by omega), Option.bind_some, ff_eq hv (by omega) (by omega), Option.bind_some, nI_1, eq_bI (dg_lt _ _) (by have := hf _ _ dx dy; omega)]
        unfold alY
        split
        · rename_i q; rw [q]; rfl
        · rename_i q; rw [Bool.eq_false_iff.mpr q]; rfl
      · show m_X9_isMap_s100 v (nI h) (nI x) (bI true) (nI n) = _
        unfold m_X9_isMap_s100
        rw [if_neg (show ¬ bI true = 0 by decide), size_eq hz, Option.bind_some, if_pos (nI_le (Nat.le_refl n) (by omega))]
    have e58 : lp (fun q : (Int32 × Int32) => m_X9_isMap_s58 v (nI h) q.1 q.2) 1000 (bI true, 0) = some (bI (true && allN (alX tv n h) n)) := by
      refine lp_andE (alX tv n h) n (by omega) true (fun x hx => ?_) ?_ (fun k => rfl)
      · show m_X9_isMap_s58 v (nI h) (bI true) (nI x) = _
        have dx := hd x hx
        unfold m_X9_isMap_s58 m_X9_isMap_j96
        have q1 := e100 x true hx
        have q0 := e100 x false hx
        rw [show bI true = 1 from rfl] at q1
        rw [show bI false = 0 from rfl] at q0
        rw [if_neg (show ¬ bI true = 0 by decide), size_eq hz, Option.bind_some, if_neg (nI_ge hx (by omega)), gg_eq hv (by omega), Option.bind_some, to_eq h hh _ (by have := hg x hx; omega), Option.bind_some, to_eq h hh x (by omega), Option.bind_some, gg_eq hv (by omega), Option.bind_some, q1, q0, Option.bind_some, Option.bind_some, nI_1, eq_bI (dg_lt _ _) (by have := hg _ dx; omega)]
        unfold alX
        split
        · rename_i q; rw [q]
        · rename_i q; rw [Bool.eq_false_iff.mpr q]
      · show m_X9_isMap_s58 v (nI h) (bI true) (nI n) = _
        unfold m_X9_isMap_s58
        rw [if_neg (show ¬ bI true = 0 by decide), size_eq hz, Option.bind_some, if_pos (nI_le (Nat.le_refl n) (by omega))]
    rw [e58, Option.bind_some]
    unfold gd
    rw [if_pos (bI_or _)]
    rfl
/-! counting -/
def ctB (P : Nat → Bool) : Nat → Nat
  | 0 => 0
  | k + 1 => ctB P k + (if P k = true then 1 else 0)
theorem ctB_le (P : Nat → Bool) : ∀ k, ctB P k ≤ k := by
  intro k
  induction k with
  | zero => exact Nat.le_refl 0
  | succ k ih =>
    unfold ctB
    split <;> omega
theorem ctB_far {P : Nat → Bool} {a : Nat} : ∀ b, a ≤ b → (∀ k, a ≤ k → k < b → P k = false) → ctB P b = ctB P a := by
  intro b
  induction b with
  | zero => intro h _; rw [show a = 0 by omega]
  | succ b ih =>
    intro h hk
    by_cases e : a = b + 1
    · rw [e]
    · show ctB P b + (if P b = true then 1 else 0) = _
      rw [hk b (by omega) (by omega), ih (by omega) (fun k h1 h2 => hk k h1 (by omega)), if_neg (by decide), Nat.add_zero]
def okM (tv : Nat → Nat) (n : Nat) (o : Bool) (h : Nat) : Bool := insN n h && (!o || onN n h) && alM tv n h
theorem pow4 : ∀ n, n < 5 → (1 : Int32) <<< ((2 * nI n) &&& 31) = nI (4 ^ n) ∧ 4 ^ n ≤ 256 := by decide +kernel
theorem maps4_eq {n : Nat} {v : Nat → Int32} {tv : Nat → Nat} (hT : okT n tv) (hv : asT v tv) (o : Bool) : m_X4_howMany (nI n) v (bI o) = some (nI (ctB (okM tv n o) (4 ^ n))) := by
  have h4 := hT.2.1
  have hp := pow4 n (by omega)
  unfold m_X4_howMany
  refine bind_eq (lp_seq0 (fun k => (nI (ctB (okM tv n o) k), nI k)) (4 ^ n) rfl (fun h hh => ?_) ?_ (by omega))
  · show m_X4_howMany_s4 (nI n) v (bI o) (nI (ctB (okM tv n o) h)) (nI h) = _
    unfold m_X4_howMany_s4 m_X4_howMany_j36
    rw [hp.1, if_neg (nI_ge hh (by omega)), inside_fin n (by omega) h hh, Option.bind_some, nI_1, nI_1]
    show _ = some (Sum.inl (nI (ctB (okM tv n o) h + (if okM tv n o h = true then 1 else 0)), nI (h + 1)))
    unfold okM
    cases hi : insN n h
    · rw [if_pos (show bI false = 0 from rfl)]; rfl
    · rw [if_neg (show ¬ bI true = 0 by decide), along4_eq hT hv (by omega) (ins_dg n (by omega) h (by omega) hi), Option.bind_some, onto_fin n (by omega) h hh, Option.bind_some]
      cases o
      · rw [if_pos (show bI false = 0 from rfl)]
        cases alM tv n h
        · rfl
        · rfl
      · rw [if_neg (show ¬ bI true = 0 by decide)]
        cases onN n h
        · rfl
        · cases alM tv n h
          · rfl
          · rfl
  · show m_X4_howMany_s4 (nI n) v (bI o) (nI (ctB (okM tv n o) (4 ^ n))) (nI (4 ^ n)) = _
    unfold m_X4_howMany_s4
    rw [hp.1, if_pos (nI_le (Nat.le_refl _) (by omega))]
theorem maps9_eq {n : Nat} {v : Nat → Int32} {tv : Nat → Nat} (hT : okT n tv) (hv : asT v tv) (hz : v 20 = nI n) (o : Bool) : m_X9_maps v (bI o) = some (nI (ctB (okM tv n o) (4 ^ n))) := by
  have h1 := hT.1
  have h4 := hT.2.1
  have hp := pow4 n (by omega)
  have hfar : ctB (okM tv n o) 256 = ctB (okM tv n o) (4 ^ n) := ctB_far 256 hp.2 (fun k h1 h2 => by unfold okM; rw [ins_far n (by omega) k h2 h1]; rfl)
  rw [← hfar]
  unfold m_X9_maps
  refine bind_eq (lp_seq0 (fun k => (nI (ctB (okM tv n o) k), nI k)) 256 rfl (fun h hh => ?_) rfl (by omega))
  show m_X9_maps_s4 v (bI o) (nI (ctB (okM tv n o) h)) (nI h) = _
  unfold m_X9_maps_s4
  rw [show (256 : Int32) = nI 256 from rfl, if_neg (nI_ge hh (by decide)), met_eq hz h4 hh, Option.bind_some, isMap_eq hT hv hz hh, Option.bind_some, many_eq h4 hz, Option.bind_some, nI_1, nI_1, show (0 : Int32) = nI 0 from rfl, nI_add]
  show _ = some (Sum.inl (nI (ctB (okM tv n o) h + (if okM tv n o h = true then 1 else 0)), nI (h + 1)))
  have hm := (met_fin n (by omega) h hh).2
  unfold okM
  cases hi : insN n h
  · rw [if_pos (show bI (false && alM tv n h) = nI 0 from rfl)]; rfl
  · cases ha : alM tv n h
    · rw [if_pos (show bI (true && false) = nI 0 from rfl)]
      simp only [Bool.and_false, Bool.false_eq_true, if_false]
    · rw [if_neg (show ¬ bI (true && true) = nI 0 by decide)]
      cases o
      · rw [if_pos (show bI false = nI 0 from rfl)]; rfl
      · rw [if_neg (show ¬ bI true = nI 0 by decide)]
        cases hon : onN n h
        · rw [if_neg (fun q => by have := (hm hi).mp q; rw [hon] at this; cases this)]; rfl
        · rw [if_pos ((hm hi).mpr hon)]; rfl
