/-! the first place where something is found -/
def fs {ρ : Type} (P : Nat → Option ρ) : Nat → Nat → Option ρ
  | 0, _ => none
  | d + 1, k => match P k with
    | some r => some r
    | none => fs P d (k + 1)
theorem fs_congr {ρ : Type} {P Q : Nat → Option ρ} : ∀ d k, (∀ j, k ≤ j → j < k + d → P j = Q j) → fs P d k = fs Q d k := by
  intro d
  induction d with
  | zero => intro k _; rfl
  | succ d ih =>
    intro k h
    unfold fs
    rw [h k (Nat.le_refl k) (by omega), ih (k + 1) (fun j h1 h2 => h j (by omega) (by omega))]
def fsR {ρ : Type} (o : Option ρ) : ρ ⊕ Unit := match o with
  | some r => .inl r
  | none => .inr ()
def fsS {ρ : Type} (o : Option ρ) (k : Nat) : Int32 ⊕ (ρ ⊕ Unit) := match o with
  | some r => .inr (.inl r)
  | none => .inl (nI (k + 1))
theorem lp_find {ρ : Type} {step : Int32 → Option (Int32 ⊕ (ρ ⊕ Unit))} (P : Nat → Option ρ) (e : Nat) (hs : ∀ k, k < e → step (nI k) = some (fsS (P k) k)) (hx : step (nI e) = some (.inr (.inr ()))) : ∀ d k N, k + d = e → d < N → lp step N (nI k) = some (fsR (fs P d k)) := by
  intro d
  induction d with
  | zero =>
    intro k N hk hN
    obtain ⟨N, rfl⟩ : ∃ M, N = M + 1 := ⟨N - 1, by omega⟩
    obtain rfl : k = e := by omega
    exact lp_exit hx
  | succ d ih =>
    intro k N hk hN
    obtain ⟨N, rfl⟩ : ∃ M, N = M + 1 := ⟨N - 1, by omega⟩
    have h1 := hs k (by omega)
    cases hp : P k with
    | some r =>
      rw [hp] at h1
      rw [lp_exit h1]
      simp only [fs, hp, fsR]
    | none =>
      rw [hp] at h1
      rw [lp_succ h1, ih (k + 1) N (by omega) (by omega)]
      simp only [fs, hp]
/-! laws -/
def so (tv : Nat → Nat) (law x y z : Nat) : Bool := match law with
  | 0 => tv (4 * x + x) == x
  | 1 => tv (4 * x + y) == tv (4 * y + x)
  | 2 => tv (4 * tv (4 * x + y) + z) == tv (4 * x + tv (4 * y + z))
  | 3 => tv (16 + tv (16 + x)) == x
  | 4 => tv (16 + tv (4 * x + y)) == tv (4 * tv (16 + y) + tv (16 + x))
  | 5 => tv (4 * x + tv (4 * x + y)) == tv (4 * x + y)
  | _ => tv (4 * x + tv (16 + x)) == tv (4 * y + tv (16 + y))
theorem nI4 : ∀ a, a < 4 → ∀ b, b < 4 → (nI a = nI b ↔ a = b) := by decide +kernel
theorem nI7 : ∀ a, a < 7 → ∀ b, b < 7 → (nI a = nI b ↔ a = b) := by decide +kernel
theorem so_ite {a b : Nat} (ha : a < 4) (hb : b < 4) : (if nI a = nI b then some (1 : Int32) else some 0) = some (if (a == b) = true then 1 else 0) := by
  by_cases h : a = b
  · subst h
    simp
  · rw [if_neg (fun q => h ((nI4 a ha b hb).mp q)), if_neg (by simpa using h)]
theorem isSo3_eq {n : Nat} {v : Nat → Int32} {tv : Nat → Nat} (hT : okT n tv) (hv : asT v tv) {law x y z : Nat} (hl : law < 7) (hx : x < n) (hy : y < n) (hz : z < n) : m_X3_isSo v (nI law) (nI x) (nI y) (nI z) = some (if so tv law x y z = true then 1 else 0) := by
  obtain ⟨h1, h4, hb, hf, hg⟩ := hT
  have k : ∀ a, a < n → a < 4 := fun a h => by omega
  have t2 : ∀ a b, a < n → b < n → m_X6_two v (nI a) (nI b) = some (nI (tv (4 * a + b))) := fun a b ha hb => two_eq hv (k a ha) (k b hb)
  have t1 : ∀ a, a < n → m_X6_one v (nI a) = some (nI (tv (16 + a))) := fun a ha => one_eq hv (k a ha)
  unfold m_X3_isSo
  have c : ∀ j, j < 7 → (nI law = nI j ↔ law = j) := fun j hj => nI7 law hl j hj
  rw [show (0 : Int32) = nI 0 from rfl, show (1 : Int32) = nI 1 from rfl, show (2 : Int32) = nI 2 from rfl, show (3 : Int32) = nI 3 from rfl, show (4 : Int32) = nI 4 from rfl, show (5 : Int32) = nI 5 from rfl]
  simp only [c 0 (by decide), c 1 (by decide), c 2 (by decide), c 3 (by decide), c 4 (by decide), c 5 (by decide)]
  rcases (show law = 0 ∨ law = 1 ∨ law = 2 ∨ law = 3 ∨ law = 4 ∨ law = 5 ∨ law = 6 by omega) with rfl | rfl | rfl | rfl | rfl | rfl | rfl
  · simp only [if_true, t2 x x hx hx, Option.bind_some]
    exact so_ite (k _ (hf x x hx hx)) (k _ hx)
  · simp only [Nat.one_ne_zero, if_false, if_true, t2 x y hx hy, t2 y x hy hx, Option.bind_some]
    exact so_ite (k _ (hf x y hx hy)) (k _ (hf y x hy hx))
  · simp only [show ¬ (2 = 0) by decide, show ¬ (2 = 1) by decide, if_false, if_true, t2 x y hx hy, t2 _ z (hf x y hx hy) hz, t2 y z hy hz, t2 x _ hx (hf y z hy hz), Option.bind_some]
    exact so_ite (k _ (hf _ z (hf x y hx hy) hz)) (k _ (hf x _ hx (hf y z hy hz)))
  · simp only [show ¬ (3 = 0) by decide, show ¬ (3 = 1) by decide, show ¬ (3 = 2) by decide, if_false, if_true, t1 x hx, t1 _ (hg x hx), Option.bind_some]
    exact so_ite (k _ (hg _ (hg x hx))) (k _ hx)
  · simp only [show ¬ (4 = 0) by decide, show ¬ (4 = 1) by decide, show ¬ (4 = 2) by decide, show ¬ (4 = 3) by decide, if_false, if_true, t2 x y hx hy, t1 _ (hf x y hx hy), t1 y hy, t1 x hx, t2 _ _ (hg y hy) (hg x hx), Option.bind_some]
    exact so_ite (k _ (hg _ (hf x y hx hy))) (k _ (hf _ _ (hg y hy) (hg x hx)))
  · simp only [show ¬ (5 = 0) by decide, show ¬ (5 = 1) by decide, show ¬ (5 = 2) by decide, show ¬ (5 = 3) by decide, show ¬ (5 = 4) by decide, if_false, if_true, t2 x y hx hy, t2 x _ hx (hf x y hx hy), Option.bind_some]
    exact so_ite (k _ (hf x _ hx (hf x y hx hy))) (k _ (hf x y hx hy))
  · simp only [show ¬ (6 = 0) by decide, show ¬ (6 = 1) by decide, show ¬ (6 = 2) by decide, show ¬ (6 = 3) by decide, show ¬ (6 = 4) by decide, show ¬ (6 = 5) by decide, if_false, if_true, t1 x hx, t2 x _ hx (hg x hx), t1 y hy, t2 y _ hy (hg y hy), Option.bind_some]
    exact so_ite (k _ (hf x _ hx (hg x hx))) (k _ (hf y _ hy (hg y hy)))
theorem isSo9_eq {n : Nat} {v : Nat → Int32} {tv : Nat → Nat} (hT : okT n tv) (hv : asT v tv) {law x y z : Nat} (hl : law < 7) (hx : x < n) (hy : y < n) (hz : z < n) : m_X9_isSo v (nI law) (nI x) (nI y) (nI z) = some (if so tv law x y z = true then 1 else 0) := by
  obtain ⟨h1, h4, hb, hf, hg⟩ := hT
  have k : ∀ a, a < n → a < 4 := fun a h => by omega
  have t2 : ∀ a b, a < n → b < n → m_X9_ff v (nI a) (nI b) = some (nI (tv (4 * a + b))) := fun a b ha hb => ff_eq hv (k a ha) (k b hb)
  have t1 : ∀ a, a < n → m_X9_gg v (nI a) = some (nI (tv (16 + a))) := fun a ha => gg_eq hv (k a ha)
  unfold m_X9_isSo
  have c : ∀ j, j < 7 → (nI law = nI j ↔ law = j) := fun j hj => nI7 law hl j hj
  rw [show (0 : Int32) = nI 0 from rfl, show (1 : Int32) = nI 1 from rfl, show (2 : Int32) = nI 2 from rfl, show (3 : Int32) = nI 3 from rfl, show (4 : Int32) = nI 4 from rfl, show (5 : Int32) = nI 5 from rfl]
  simp only [c 0 (by decide), c 1 (by decide), c 2 (by decide), c 3 (by decide), c 4 (by decide), c 5 (by decide)]
  rcases (show law = 0 ∨ law = 1 ∨ law = 2 ∨ law = 3 ∨ law = 4 ∨ law = 5 ∨ law = 6 by omega) with rfl | rfl | rfl | rfl | rfl | rfl | rfl
  · simp only [if_true, t2 x x hx hx, Option.bind_some]
    exact so_ite (k _ (hf x x hx hx)) (k _ hx)
  · simp only [Nat.one_ne_zero, if_false, if_true, t2 x y hx hy, t2 y x hy hx, Option.bind_some]
    exact so_ite (k _ (hf x y hx hy)) (k _ (hf y x hy hx))
  · simp only [show ¬ (2 = 0) by decide, show ¬ (2 = 1) by decide, if_false, if_true, t2 x y hx hy, t2 _ z (hf x y hx hy) hz, t2 y z hy hz, t2 x _ hx (hf y z hy hz), Option.bind_some]
    exact so_ite (k _ (hf _ z (hf x y hx hy) hz)) (k _ (hf x _ hx (hf y z hy hz)))
  · simp only [show ¬ (3 = 0) by decide, show ¬ (3 = 1) by decide, show ¬ (3 = 2) by decide, if_false, if_true, t1 x hx, t1 _ (hg x hx), Option.bind_some]
    exact so_ite (k _ (hg _ (hg x hx))) (k _ hx)
  · simp only [show ¬ (4 = 0) by decide, show ¬ (4 = 1) by decide, show ¬ (4 = 2) by decide, show ¬ (4 = 3) by decide, if_false, if_true, t2 x y hx hy, t1 _ (hf x y hx hy), t1 y hy, t1 x hx, t2 _ _ (hg y hy) (hg x hx), Option.bind_some]
    exact so_ite (k _ (hg _ (hf x y hx hy))) (k _ (hf _ _ (hg y hy) (hg x hx)))
  · simp only [show ¬ (5 = 0) by decide, show ¬ (5 = 1) by decide, show ¬ (5 = 2) by decide, show ¬ (5 = 3) by decide, show ¬ (5 = 4) by decide, if_false, if_true, t2 x y hx hy, t2 x _ hx (hf x y hx hy), Option.bind_some]
    exact so_ite (k _ (hf x _ hx (hf x y hx hy))) (k _ (hf x y hx hy))
  · simp only [show ¬ (6 = 0) by decide, show ¬ (6 = 1) by decide, show ¬ (6 = 2) by decide, show ¬ (6 = 3) by decide, show ¬ (6 = 4) by decide, show ¬ (6 = 5) by decide, if_false, if_true, t1 x hx, t2 x _ hx (hg x hx), t1 y hy, t2 y _ hy (hg y hy), Option.bind_some]
    exact so_ite (k _ (hf x _ hx (hg x hx))) (k _ (hf y _ hy (hg y hy)))
/-- the first three by which a law is not so -/
def lz (tv : Nat → Nat) (law x y z : Nat) : Option Int32 := if so tv law x y z = true then none else some (((100 * nI x) + (10 * nI y)) + nI z)
def ly (tv : Nat → Nat) (law zs x y : Nat) : Option Int32 := fs (lz tv law x y) zs 0
def lx (tv : Nat → Nat) (law ys zs x : Nat) : Option Int32 := fs (ly tv law zs x) ys 0
def ysOf (n law : Nat) : Nat := if law = 0 ∨ law = 3 then 1 else n
def zsOf (n law : Nat) : Nat := if law = 2 then n else 1
def first (tv : Nat → Nat) (n law : Nat) : Option Int32 := fs (lx tv law (ysOf n law) (zsOf n law)) n 0
def firstI (o : Option Int32) : Int32 := match o with
  | some r => r
  | none => -9
theorem fsR_bd {o : Option Int32} {x : Nat} : bdS (some (fsR o)) (fun u => some (Sum.inr (Sum.inl u) : Int32 ⊕ (Int32 ⊕ Unit))) (fun _ => some (.inl (nI (x + 1)))) = some (fsS o x) := by
  cases o <;> rfl
theorem fsR_end {o : Option Int32} : bdS (some (fsR o)) (fun u => some u) (fun _ => some (-9 : Int32)) = some (firstI o) := by
  cases o <;> rfl
theorem lz3 {n : Nat} {v : Nat → Int32} {tv : Nat → Nat} (hT : okT n tv) (hv : asT v tv) {law x y zs : Nat} (hl : law < 7) (hx : x < n) (hy : y < n) (hzs : zs ≤ n) : lp (fun q : Int32 => m_X3_firstAgainst_s56 v (nI law) (nI zs) (nI x) (nI y) q) 1000 0 = some (fsR (ly tv law zs x y)) := by
  have h4 := hT.2.1
  rw [show (0 : Int32) = nI 0 from rfl]
  refine lp_find (lz tv law x y) zs (fun k hk => ?_) ?_ zs 0 1000 (by omega) (by omega)
  · show m_X3_firstAgainst_s56 v (nI law) (nI zs) (nI x) (nI y) (nI k) = _
    unfold m_X3_firstAgainst_s56
    rw [if_neg (nI_ge hk (by omega)), isSo3_eq hT hv hl hx hy (by omega), Option.bind_some, nI_1]
    unfold lz
    by_cases hs : so tv law x y k = true
    · rw [if_pos hs, if_pos hs, if_neg one_ne0]; rfl
    · rw [if_neg hs, if_neg hs, if_pos rfl]; rfl
  · show m_X3_firstAgainst_s56 v (nI law) (nI zs) (nI x) (nI y) (nI zs) = _
    unfold m_X3_firstAgainst_s56
    rw [if_pos (nI_le (Nat.le_refl zs) (by omega))]
theorem ly3 {n : Nat} {v : Nat → Int32} {tv : Nat → Nat} (hT : okT n tv) (hv : asT v tv) {law x ys zs : Nat} (hl : law < 7) (hx : x < n) (hys : ys ≤ n) (hzs : zs ≤ n) : lp (fun q : Int32 => m_X3_firstAgainst_s47 v (nI law) (nI ys) (nI zs) (nI x) q) 1000 0 = some (fsR (lx tv law ys zs x)) := by
  have h4 := hT.2.1
  rw [show (0 : Int32) = nI 0 from rfl]
  refine lp_find (ly tv law zs x) ys (fun k hk => ?_) ?_ ys 0 1000 (by omega) (by omega)
  · show m_X3_firstAgainst_s47 v (nI law) (nI ys) (nI zs) (nI x) (nI k) = _
    unfold m_X3_firstAgainst_s47
    rw [if_neg (nI_ge hk (by omega)), lz3 hT hv hl hx (by omega) hzs, nI_1, fsR_bd]
  · show m_X3_firstAgainst_s47 v (nI law) (nI ys) (nI zs) (nI x) (nI ys) = _
    unfold m_X3_firstAgainst_s47
    rw [if_pos (nI_le (Nat.le_refl ys) (by omega))]
theorem lx3 {n : Nat} {v : Nat → Int32} {tv : Nat → Nat} (hT : okT n tv) (hv : asT v tv) {law ys zs : Nat} (hl : law < 7) (hys : ys ≤ n) (hzs : zs ≤ n) : m_X3_firstAgainst_j31 (nI n) v (nI law) (nI ys) (nI zs) = some (firstI (fs (lx tv law ys zs) n 0)) := by
  have h4 := hT.2.1
  unfold m_X3_firstAgainst_j31
  have e : lp (fun q : Int32 => m_X3_firstAgainst_s35 (nI n) v (nI law) (nI ys) (nI zs) q) 1000 0 = some (fsR (fs (lx tv law ys zs) n 0)) := by
    rw [show (0 : Int32) = nI 0 from rfl]
    refine lp_find (lx tv law ys zs) n (fun k hk => ?_) ?_ n 0 1000 (by omega) (by omega)
    · show m_X3_firstAgainst_s35 (nI n) v (nI law) (nI ys) (nI zs) (nI k) = _
      unfold m_X3_firstAgainst_s35
      rw [if_neg (nI_ge hk (by omega)), ly3 hT hv hl hk hys hzs, nI_1, fsR_bd]
    · show m_X3_firstAgainst_s35 (nI n) v (nI law) (nI ys) (nI zs) (nI n) = _
      unfold m_X3_firstAgainst_s35
      rw [if_pos (nI_le (Nat.le_refl n) (by omega))]
  rw [e, fsR_end]
theorem firstAgainst_eq {n : Nat} {v : Nat → Int32} {tv : Nat → Nat} (hT : okT n tv) (hv : asT v tv) {law : Nat} (hl : law < 7) : m_X3_firstAgainst (nI n) v (nI law) = some (firstI (first tv n law)) := by
  have h1 := hT.1
  unfold m_X3_firstAgainst m_X3_firstAgainst_j9 m_X3_firstAgainst_j17
  have c : ∀ j, j < 7 → (nI law = nI j ↔ law = j) := fun j hj => nI7 law hl j hj
  rw [show (0 : Int32) = nI 0 from rfl, show (2 : Int32) = nI 2 from rfl, show (3 : Int32) = nI 3 from rfl, show (1 : Int32) = nI 1 from rfl]
  simp only [c 0 (by decide), c 2 (by decide), c 3 (by decide), first, ysOf, zsOf]
  by_cases h0 : law = 0
  · subst h0
    simp only [if_true, true_or, show ¬ (0 = 2) by decide, if_false]
    exact lx3 hT hv hl h1 h1
  · by_cases h3 : law = 3
    · subst h3
      simp only [if_true, or_true, show ¬ (3 = 2) by decide, show ¬ (3 = 0) by decide, if_false]
      exact lx3 hT hv hl h1 h1
    · by_cases h2 : law = 2
      · subst h2
        simp only [if_true, show ¬ (2 = 0) by decide, show ¬ (2 = 3) by decide, or_self, if_false]
        exact lx3 hT hv hl (Nat.le_refl n) (Nat.le_refl n)
      · simp only [h0, h3, h2, or_self, if_false]
        exact lx3 hT hv hl (Nat.le_refl n) h1
/-- how many letters a law names -/
def nmd (law : Nat) : Nat := if law = 0 then 1 else if law = 3 then 1 else if law = 2 then 3 else 2
theorem named_eq : ∀ law, law < 7 → m_X9_named (nI law) = some (nI (nmd law)) := by decide +kernel
theorem lz9 {n : Nat} {v : Nat → Int32} {tv : Nat → Nat} (hT : okT n tv) (hv : asT v tv) (hz : v 20 = nI n) {law x y : Nat} (hl : law < 7) (hx : x < n) (hy : y < n) : lp (fun q : Int32 => m_X9_firstOf_s39 v (nI law) (nI (nmd law)) (nI x) (nI y) q) 1000 0 = some (fsR (ly tv law (zsOf n law) x y)) := by
  have h1 := hT.1
  have h4 := hT.2.1
  have hzs : zsOf n law ≤ n := by unfold zsOf; split <;> omega
  have hn3 : nmd law ≤ 3 := by unfold nmd; split; omega; split; omega; split <;> omega
  have e : ∀ k, m_X9_firstOf_s39 v (nI law) (nI (nmd law)) (nI x) (nI y) (nI k) = m_X9_firstOf_j54 v (nI law) (nI x) (nI y) (nI k) (nI k) (nI (zsOf n law)) := by
    intro k
    unfold m_X9_firstOf_s39
    by_cases h2 : law = 2
    · subst h2
      rw [show (2 : Int32) = nI 2 from rfl, if_neg (nI_ge (by decide) (by decide)), size_eq hz, Option.bind_some]
      rfl
    · rw [show (2 : Int32) = nI 2 from rfl, if_pos (nI_le (by unfold nmd; (repeat' split) <;> omega) (by decide))]
      simp only [zsOf, h2, if_false]
      rfl
  rw [show (0 : Int32) = nI 0 from rfl]
  refine lp_find (lz tv law x y) (zsOf n law) (fun k hk => ?_) ?_ (zsOf n law) 0 1000 (by omega) (by omega)
  · show m_X9_firstOf_s39 v (nI law) (nI (nmd law)) (nI x) (nI y) (nI k) = _
    rw [e k]
    unfold m_X9_firstOf_j54
    rw [if_neg (nI_ge hk (by omega)), isSo9_eq hT hv hl hx hy (by omega), Option.bind_some, nI_1]
    unfold lz
    by_cases hs : so tv law x y k = true
    · rw [if_pos hs, if_pos hs, if_neg one_ne0]; rfl
    · rw [if_neg hs, if_neg hs, if_pos rfl]; rfl
  · show m_X9_firstOf_s39 v (nI law) (nI (nmd law)) (nI x) (nI y) (nI (zsOf n law)) = _
    rw [e]
    unfold m_X9_firstOf_j54
    rw [if_pos (nI_le (Nat.le_refl _) (by omega))]
theorem ly9 {n : Nat} {v : Nat → Int32} {tv : Nat → Nat} (hT : okT n tv) (hv : asT v tv) (hz : v 20 = nI n) {law x : Nat} (hl : law < 7) (hx : x < n) : lp (fun q : Int32 => m_X9_firstOf_s18 v (nI law) (nI (nmd law)) (nI x) q) 1000 0 = some (fsR (lx tv law (ysOf n law) (zsOf n law) x)) := by
  have h1 := hT.1
  have h4 := hT.2.1
  have hys : ysOf n law ≤ n := by unfold ysOf; split <;> omega
  have e : ∀ k, m_X9_firstOf_s18 v (nI law) (nI (nmd law)) (nI x) (nI k) = m_X9_firstOf_j33 v (nI law) (nI (nmd law)) (nI x) (nI k) (nI k) (nI (ysOf n law)) := by
    intro k
    unfold m_X9_firstOf_s18
    by_cases h2 : law = 0 ∨ law = 3
    · have hn : nmd law = 1 := by rcases h2 with rfl | rfl <;> rfl
      rw [show (1 : Int32) = nI 1 from rfl, hn, if_pos (nI_le (Nat.le_refl 1) (by decide))]
      simp only [ysOf, h2, if_true]
    · have hn : 1 < nmd law := by unfold nmd; rw [if_neg (fun q => h2 (Or.inl q)), if_neg (fun q => h2 (Or.inr q))]; split <;> omega
      have hn3 : nmd law ≤ 3 := by unfold nmd; split; omega; split; omega; split <;> omega
      rw [show (1 : Int32) = nI 1 from rfl, if_neg (nI_ge hn (by omega)), size_eq hz, Option.bind_some]
      simp only [ysOf, h2, if_false]
  rw [show (0 : Int32) = nI 0 from rfl]
  refine lp_find (ly tv law (zsOf n law) x) (ysOf n law) (fun k hk => ?_) ?_ (ysOf n law) 0 1000 (by omega) (by omega)
  · show m_X9_firstOf_s18 v (nI law) (nI (nmd law)) (nI x) (nI k) = _
    rw [e k]
    unfold m_X9_firstOf_j33
    rw [if_neg (nI_ge hk (by omega)), lz9 hT hv hz hl hx (by omega), nI_1, fsR_bd]
  · show m_X9_firstOf_s18 v (nI law) (nI (nmd law)) (nI x) (nI (ysOf n law)) = _
    rw [e]
    unfold m_X9_firstOf_j33
    rw [if_pos (nI_le (Nat.le_refl _) (by omega))]
theorem firstOf_eq {n : Nat} {v : Nat → Int32} {tv : Nat → Nat} (hT : okT n tv) (hv : asT v tv) (hz : v 20 = nI n) {law : Nat} (hl : law < 7) : m_X9_firstOf v (nI law) = some (firstI (first tv n law)) := by
  have h4 := hT.2.1
  unfold m_X9_firstOf
  rw [named_eq law hl, Option.bind_some]
  have e : lp (fun q : Int32 => m_X9_firstOf_s7 v (nI law) (nI (nmd law)) q) 1000 0 = some (fsR (first tv n law)) := by
    rw [show (0 : Int32) = nI 0 from rfl]
    refine lp_find (lx tv law (ysOf n law) (zsOf n law)) n (fun k hk => ?_) ?_ n 0 1000 (by omega) (by omega)
    · show m_X9_firstOf_s7 v (nI law) (nI (nmd law)) (nI k) = _
      unfold m_X9_firstOf_s7
      rw [size_eq hz, Option.bind_some, if_neg (nI_ge hk (by omega)), ly9 hT hv hz hl hk, nI_1, fsR_bd]
    · show m_X9_firstOf_s7 v (nI law) (nI (nmd law)) (nI n) = _
      unfold m_X9_firstOf_s7
      rw [size_eq hz, Option.bind_some, if_pos (nI_le (Nat.le_refl n) (by omega))]
  rw [e, fsR_end]
theorem fs_some {ρ : Type} {P : Nat → Option ρ} {r : ρ} : ∀ d k, fs P d k = some r → ∃ j, k ≤ j ∧ j < k + d ∧ P j = some r := by
  intro d
  induction d with
  | zero => intro k h; cases h
  | succ d ih =>
    intro k h
    unfold fs at h
    cases hp : P k with
    | some q =>
      rw [hp] at h
      exact ⟨k, Nat.le_refl k, by omega, hp.trans h⟩
    | none =>
      rw [hp] at h
      obtain ⟨j, h1, h2, h3⟩ := ih (k + 1) h
      exact ⟨j, by omega, by omega, h3⟩
theorem num3 (x y z : Nat) : ((100 * nI x) + (10 * nI y)) + nI z = nI (100 * x + 10 * y + z) := by
  rw [show (100 : Int32) = nI 100 from rfl, show (10 : Int32) = nI 10 from rfl, pk_mul, pk_mul, nI_add, nI_add]
theorem nI_ne9 {k : Nat} (h : k < 2 ^ 31) : ¬ nI k = -9 := fun q => nI_pos h (by rw [q]; decide)
theorem firstI_ne {o : Option Int32} (h : ∀ r, o = some r → ¬ r = -9) : firstI o = -9 ↔ o = none := by
  cases o with
  | none => simp [firstI]
  | some r => simp [firstI, h r rfl]
theorem zs_le {n law : Nat} (h1 : 1 ≤ n) : zsOf n law ≤ n := by unfold zsOf; split <;> omega
theorem ys_le {n law : Nat} (h1 : 1 ≤ n) : ysOf n law ≤ n := by unfold ysOf; split <;> omega
theorem first_ne {tv : Nat → Nat} {n law : Nat} (h1 : 1 ≤ n) (h4 : n ≤ 4) : ∀ r, first tv n law = some r → ¬ r = -9 := by
  intro r h
  obtain ⟨x, -, hx, h⟩ := fs_some _ _ h
  obtain ⟨y, -, hy, h⟩ := fs_some _ _ h
  obtain ⟨z, -, hz, h⟩ := fs_some _ _ h
  have := zs_le (law := law) h1
  have := ys_le (law := law) h1
  unfold lz at h
  split at h
  · cases h
  · cases h
    rw [num3]
    exact nI_ne9 (by omega)
theorem holds_eq {n : Nat} {v : Nat → Int32} {tv : Nat → Nat} (hT : okT n tv) (hv : asT v tv) {law : Nat} (hl : law < 7) : m_X3_holds (nI n) v (nI law) = some (if first tv n law = none then 1 else 0) := by
  unfold m_X3_holds
  rw [firstAgainst_eq hT hv hl, Option.bind_some]
  have hi := firstI_ne (first_ne (tv := tv) (n := n) (law := law) hT.1 hT.2.1)
  by_cases h : first tv n law = none
  · rw [if_pos (hi.mpr h), if_pos h]
  · rw [if_neg (fun q => h (hi.mp q)), if_neg h]
theorem there_cases (x : Int32) : (m_X3_isThere x = some 0 ∧ m_X9_in x 0 6 = some 0) ∨ (∃ law, law < 7 ∧ x = nI law ∧ m_X3_isThere x = some 1 ∧ m_X9_in x 0 6 = some 1) := by
  rw [in_eq]
  unfold m_X3_isThere
  by_cases h0 : x < 0
  · exact Or.inl ⟨if_pos h0, by rw [if_pos h0]⟩
  · obtain ⟨k, hk, rfl⟩ := nI_of h0
    rw [if_neg h0, if_neg h0, show (7 : Int32) = nI 7 from rfl, show (6 : Int32) = nI 6 from rfl]
    by_cases h7 : k < 7
    · exact Or.inr ⟨k, h7, rfl, if_neg (nI_ge h7 (by decide)), by rw [if_neg (nI_nlt (by omega) (by decide))]⟩
    · exact Or.inl ⟨if_pos (nI_le (by omega) hk), by rw [if_pos (nI_lt (by omega) hk)]⟩
/-! promise 11 -/
theorem agree_law {n : Nat} {v w : Nat → Int32} {tv : Nat → Nat} (hT : okT n tv) (hv : asT v tv) (hw : asT w tv) (hz : w 20 = nI n) (x : Int32) : ∃ r, m_X8_law (nI n) v x = some r ∧ m_X9_law w x = some r := by
  unfold m_X8_law m_X9_law
  rcases there_cases x with ⟨e1, e2⟩ | ⟨law, hl, rfl, e1, e2⟩
  · rw [e1, e2, Option.bind_some, Option.bind_some, if_pos rfl, if_pos rfl]
    exact ⟨_, rfl, rfl⟩
  · rw [e1, e2, Option.bind_some, Option.bind_some, if_neg one_ne0, if_neg one_ne0, firstAgainst_eq hT hv hl, firstOf_eq hT hw hz hl, Option.bind_some]
    exact ⟨_, rfl, rfl⟩
theorem nI_or (a b : Nat) : nI a ||| nI b = nI (a ||| b) := by
  unfold nI
  apply Int32.toBitVec_inj.mp
  first
  | (simp [BitVec.ofNat_or]; done)
  | (rw [Int32.toBitVec_or, Int32.toBitVec_ofNat, Int32.toBitVec_ofNat, Int32.toBitVec_ofNat, BitVec.ofNat_or]; done)
  | (apply BitVec.eq_of_toNat_eq; simp [Nat.or_mod_two_pow]; done)
theorem shl1b : ∀ k, k < 31 → (1 : Int32) <<< (nI k &&& 31) = nI (2 ^ k) := by decide +kernel
/-! which laws hold -/
def hb (tv : Nat → Nat) (n : Nat) : Nat → Nat
  | 0 => 0
  | k + 1 => if first tv n k = none then hb tv n k ||| 2 ^ k else hb tv n k
theorem thatHold_eq {n : Nat} {v : Nat → Int32} {tv : Nat → Nat} (hT : okT n tv) (hv : asT v tv) : m_X3_thatHold (nI n) v = some (nI (hb tv n 7)) := by
  unfold m_X3_thatHold
  refine bind_eq (lp_seq0 (fun k => (nI (hb tv n k), nI k)) 7 (r := nI (hb tv n 7)) rfl (fun k hk => ?_) ?_ (by omega))
  · show m_X3_thatHold_s4 (nI n) v (nI (hb tv n k)) (nI k) = _
    unfold m_X3_thatHold_s4
    rw [show (7 : Int32) = nI 7 from rfl, if_neg (nI_ge hk (by omega)), holds_eq hT hv hk, Option.bind_some, shl1b k (by omega), nI_or, nI_1]
    by_cases h : first tv n k = none
    · rw [if_pos h, if_neg one_ne0]
      simp only [hb, h, if_true]
    · rw [if_neg h, if_pos rfl]
      simp only [hb, h, if_false]
  · rfl
theorem holding_eq {n : Nat} {v : Nat → Int32} {tv : Nat → Nat} (hT : okT n tv) (hv : asT v tv) (hz : v 20 = nI n) : m_X9_holding v = some (nI (hb tv n 7)) := by
  unfold m_X9_holding
  refine bind_eq (lp_seq0 (fun k => (nI (hb tv n k), nI k)) 7 (r := nI (hb tv n 7)) rfl (fun k hk => ?_) ?_ (by omega))
  · show m_X9_holding_s4 v (nI (hb tv n k)) (nI k) = _
    unfold m_X9_holding_s4
    have hi := firstI_ne (first_ne (tv := tv) (n := n) (law := k) hT.1 hT.2.1)
    rw [show (7 : Int32) = nI 7 from rfl, if_neg (nI_ge hk (by omega)), firstOf_eq hT hv hz hk, Option.bind_some, shl1b k (by omega), nI_or, nI_1]
    by_cases h : first tv n k = none
    · rw [if_pos (hi.mpr h)]
      simp only [hb, h, if_true]
    · rw [if_neg (fun q => h (hi.mp q)), show (0 : Int32) = nI 0 from rfl, nI_or, Nat.or_zero]
      simp only [hb, h, if_false]
  · rfl
/-! the least change -/
def setT (tv : Nat → Nat) (p c : Nat) : Nat → Nat := fun j => if j = p then c else tv j
theorem asT_upd {v : Nat → Int32} {tv : Nat → Nat} {p c : Nat} (h : ∀ j, j < 20 → j ≠ p → v j = nI (tv j)) : asT (upd v p (nI c)) (setT tv p c) := by
  intro j hj
  unfold setT
  by_cases e : j = p
  · subst e
    rw [pk_us, if_pos rfl]
  · rw [pk_un e, if_neg e]
    exact h j hj e
theorem okT_set {n : Nat} {tv : Nat → Nat} (hT : okT n tv) {x y c : Nat} (hx : x < n) (hy : y < n) (hc : c < n) : okT n (setT tv (4 * x + y) c) := by
  obtain ⟨h1, h4, hb, hf, hg⟩ := hT
  refine ⟨h1, h4, fun j hj => ?_, fun a b ha hb' => ?_, fun a ha => ?_⟩
  · unfold setT; split
    · omega
    · exact hb j hj
  · unfold setT; split
    · exact hc
    · exact hf a b ha hb'
  · unfold setT; rw [if_neg (by omega)]
    exact hg a ha
theorem at_eq {v : Nat → Int32} {p : Nat} (hp : p < 20) : m_X6_at v (nI p) = some (v p) := by
  unfold m_X6_at
  rw [if_neg (nI_pos (by omega)), show (20 : Int32) = nI 20 from rfl, if_neg (nI_ge hp (by decide)), rd_eq rfl hp (by decide)]
theorem put_eq {v : Nat → Int32} {p : Nat} {x : Int32} (hp : p < 20) : m_X6_put v (nI p) x = some (upd v p x) := by
  unfold m_X6_put
  rw [if_neg (nI_pos (by omega)), show (20 : Int32) = nI 20 from rfl, if_neg (nI_ge hp (by decide)), wrI_eq rfl hp (by decide)]
def exT (v : Nat → Int32) (tv : Nat → Nat) (p : Nat) : Prop := ∀ j, j < 20 → j ≠ p → v j = nI (tv j)
theorem exT_upd {v : Nat → Int32} {tv : Nat → Nat} {p : Nat} {x : Int32} (h : exT v tv p) : exT (upd v p x) tv p := fun j hj e => by rw [pk_un e]; exact h j hj e
theorem exT_back {v : Nat → Int32} {tv : Nat → Nat} {p : Nat} (h : exT v tv p) : asT (upd v p (nI (tv p))) tv := by
  intro j hj
  by_cases e : j = p
  · subst e; rw [pk_us]
  · rw [pk_un e]; exact h j hj e
/-- by which c the law holds at that place -/
def chC (tv : Nat → Nat) (n law p c : Nat) : Option Nat := if first (setT tv p c) n law = none then some c else none
theorem leastValue_lp {n x y law : Nat} {tv : Nat → Nat} (hT : okT n tv) (hx : x < n) (hy : y < n) (hl : law < 7) : ∀ d c N v, c + d = n → d + 1 < N → exT v tv (4 * x + y) → ∃ v', exT v' tv (4 * x + y) ∧ lp (fun q : (Int32 × Int32 × (Nat → Int32)) => m_X3_leastValue_s13 (nI n) (nI law) (nI (4 * x + y)) q.1 q.2.1 q.2.2) N (-9, nI c, v) = some (firstI ((fs (chC tv n law (4 * x + y)) d c).map nI), v') := by
  have h4 := hT.2.1
  have hp : 4 * x + y < 20 := by omega
  intro d
  induction d with
  | zero =>
    intro c N v hc hN hv
    obtain ⟨N, rfl⟩ : ∃ M, N = M + 1 := ⟨N - 1, by omega⟩
    obtain rfl : c = n := by omega
    refine ⟨v, hv, lp_exit ?_⟩
    show m_X3_leastValue_s13 (nI c) (nI law) (nI (4 * x + y)) (-9) (nI c) v = _
    unfold m_X3_leastValue_s13
    rw [if_pos (nI_le (Nat.le_refl c) (by omega))]
    rfl
  | succ d ih =>
    intro c N v hc hN hv
    obtain ⟨N, rfl⟩ : ∃ M, N = M + 2 := ⟨N - 2, by omega⟩
    have hcn : c < n := by omega
    have hv' := exT_upd (x := nI c) hv
    have hstep : m_X3_leastValue_s13 (nI n) (nI law) (nI (4 * x + y)) (-9) (nI c) v = some (.inl ((if first (setT tv (4 * x + y) c) n law = none then nI c else -9), nI (c + 1), upd v (4 * x + y) (nI c))) := by
      unfold m_X3_leastValue_s13
      rw [if_neg (nI_ge hcn (by omega)), if_pos rfl, put_eq hp, Option.bind_some, firstAgainst_eq (okT_set hT hx hy hcn) (asT_upd hv) hl, Option.bind_some, nI_1]
      have hi := firstI_ne (first_ne (tv := setT tv (4 * x + y) c) (n := n) (law := law) hT.1 hT.2.1)
      by_cases h : first (setT tv (4 * x + y) c) n law = none
      · rw [if_pos (hi.mpr h), if_pos h]
      · rw [if_neg (fun q => h (hi.mp q)), if_neg h]
    by_cases h : first (setT tv (4 * x + y) c) n law = none
    · rw [if_pos h] at hstep
      refine ⟨_, hv', ?_⟩
      rw [lp_succ (s := (-9, nI c, v)) hstep]
      rw [show fs (chC tv n law (4 * x + y)) (d + 1) c = some c by simp only [fs, chC, h, if_true]]
      refine lp_exit ?_
      show m_X3_leastValue_s13 (nI n) (nI law) (nI (4 * x + y)) (nI c) (nI (c + 1)) _ = _
      unfold m_X3_leastValue_s13
      by_cases hd : n ≤ c + 1
      · rw [if_pos (nI_le hd (by omega))]; rfl
      · rw [if_neg (nI_ge (by omega) (by omega)), if_neg (nI_ne9 (by omega))]; rfl
    · rw [if_neg h] at hstep
      obtain ⟨v2, h2, e2⟩ := ih (c + 1) (N + 1) (upd v (4 * x + y) (nI c)) (by omega) (by omega) hv'
      refine ⟨v2, h2, ?_⟩
      rw [lp_succ (s := (-9, nI c, v)) hstep]
      rw [show fs (chC tv n law (4 * x + y)) (d + 1) c = fs (chC tv n law (4 * x + y)) d (c + 1) by simp only [fs, chC, h, if_false]]
      exact e2
theorem leastValue_eq {n x y law : Nat} {v : Nat → Int32} {tv : Nat → Nat} (hT : okT n tv) (hv : asT v tv) (hx : x < n) (hy : y < n) (hl : law < 7) : ∃ v', asT v' tv ∧ m_X3_leastValue (nI n) v (nI law) (nI (4 * x + y)) = some (firstI ((fs (chC tv n law (4 * x + y)) n 0).map nI), v') := by
  have h4 := hT.2.1
  have hp : 4 * x + y < 20 := by omega
  obtain ⟨v1, h1, e1⟩ := leastValue_lp hT hx hy hl n 0 1000 v (by omega) (by omega) (fun j hj _ => hv j hj)
  refine ⟨_, exT_back h1, ?_⟩
  unfold m_X3_leastValue m_X3_leastValue_j56
  rw [at_eq hp, Option.bind_some, show (0 : Int32) = nI 0 from rfl, e1, Option.bind_some]
  show (m_X6_put v1 (nI (4 * x + y)) (v (4 * x + y))).bind _ = _
  rw [put_eq hp, Option.bind_some, hv _ hp]
/-- a search that carries a state -/
def fsT {ρ τ : Type} (o : Option ρ) (t : τ) : (ρ × τ) ⊕ τ := match o with
  | some r => .inl (r, t)
  | none => .inr t
def fsU {ρ τ : Type} (o : Option ρ) (k : Nat) (t : τ) : (Int32 × τ) ⊕ ((ρ × τ) ⊕ τ) := match o with
  | some r => .inr (.inl (r, t))
  | none => .inl (nI (k + 1), t)
theorem lp_findS {ρ τ : Type} {step : (Int32 × τ) → Option ((Int32 × τ) ⊕ ((ρ × τ) ⊕ τ))} (J : τ → Prop) (P : Nat → Option ρ) (e : Nat) (hs : ∀ k t, k < e → J t → ∃ t', J t' ∧ step (nI k, t) = some (fsU (P k) k t')) (hx : ∀ t, J t → step (nI e, t) = some (.inr (.inr t))) : ∀ d k t N, k + d = e → d < N → J t → ∃ t', J t' ∧ lp step N (nI k, t) = some (fsT (fs P d k) t') := by
  intro d
  induction d with
  | zero =>
    intro k t N hk hN hJ
    obtain ⟨N, rfl⟩ : ∃ M, N = M + 1 := ⟨N - 1, by omega⟩
    obtain rfl : k = e := by omega
    exact ⟨t, hJ, lp_exit (hx t hJ)⟩
  | succ d ih =>
    intro k t N hk hN hJ
    obtain ⟨N, rfl⟩ : ∃ M, N = M + 1 := ⟨N - 1, by omega⟩
    obtain ⟨t', hJ', h1⟩ := hs k t (by omega) hJ
    cases hp : P k with
    | some r =>
      rw [hp] at h1
      refine ⟨t', hJ', ?_⟩
      rw [lp_exit h1]
      simp only [fs, hp, fsT]
    | none =>
      rw [hp] at h1
      obtain ⟨t2, hJ2, h2⟩ := ih (k + 1) t' N (by omega) (by omega) hJ'
      refine ⟨t2, hJ2, ?_⟩
      rw [lp_succ h1, h2]
      simp only [fs, hp]
def chY (tv : Nat → Nat) (n law x y : Nat) : Option Int32 := (fs (chC tv n law (4 * x + y)) n 0).map (fun c => ((100 * nI x) + (10 * nI y)) + nI c)
def chX (tv : Nat → Nat) (n law x : Nat) : Option Int32 := fs (chY tv n law x) n 0
theorem chC_lt {tv : Nat → Nat} {n law p c : Nat} (h : fs (chC tv n law p) n 0 = some c) : c < n := by
  obtain ⟨j, _, hj, h⟩ := fs_some _ _ h
  unfold chC at h
  split at h
  · cases h; omega
  · cases h
theorem leastChange_eq {n law : Nat} {v : Nat → Int32} {tv : Nat → Nat} (hT : okT n tv) (hv : asT v tv) (hl : law < 7) : ∃ v', asT v' tv ∧ m_X3_leastChange (nI n) v (nI law) = some (firstI (fs (chX tv n law) n 0), v') := by
  have h4 := hT.2.1
  have inner : ∀ x, x < n → ∀ v, asT v tv → ∃ v', asT v' tv ∧ lp (fun q : (Int32 × (Nat → Int32)) => m_X3_leastChange_s12 (nI n) (nI law) (nI x) q.1 q.2) 1000 (nI 0, v) = some (fsT (chX tv n law x) v') := by
    intro x hx v hv
    refine lp_findS (fun v => asT v tv) (chY tv n law x) n (fun k t hk ht => ?_) (fun t ht => ?_) n 0 v 1000 (by omega) (by omega) hv
    · obtain ⟨v', hv', e⟩ := leastValue_eq hT ht hx hk hl
      refine ⟨v', hv', ?_⟩
      show m_X3_leastChange_s12 (nI n) (nI law) (nI x) (nI k) t = _
      unfold m_X3_leastChange_s12
      rw [if_neg (nI_ge hk (by omega)), place2 x (by omega) k (by omega), Option.bind_some, e]
      show (if firstI ((fs (chC tv n law (4 * x + k)) n 0).map nI) = -9 then _ else _) = _
      unfold chY
      cases hq : fs (chC tv n law (4 * x + k)) n 0 with
      | none =>
        rw [if_pos (show firstI (Option.map nI none) = -9 from rfl), nI_1]
        rfl
      | some c =>
        have hc := chC_lt hq
        rw [if_neg (show ¬ firstI (Option.map nI (some c)) = -9 from nI_ne9 (by omega))]
        rfl
    · show m_X3_leastChange_s12 (nI n) (nI law) (nI x) (nI n) t = _
      unfold m_X3_leastChange_s12
      rw [if_pos (nI_le (Nat.le_refl n) (by omega))]
  obtain ⟨v', hv', e⟩ := lp_findS (step := fun q : (Int32 × (Nat → Int32)) => m_X3_leastChange_s2 (nI n) (nI law) q.1 q.2) (fun v => asT v tv) (chX tv n law) n (fun k t hk ht => by
    obtain ⟨v', hv', e⟩ := inner k hk t ht
    refine ⟨v', hv', ?_⟩
    show m_X3_leastChange_s2 (nI n) (nI law) (nI k) t = _
    unfold m_X3_leastChange_s2
    rw [if_neg (nI_ge hk (by omega)), show (0 : Int32) = nI 0 from rfl, e, nI_1]
    cases chX tv n law k <;> rfl) (fun t ht => by
    show m_X3_leastChange_s2 (nI n) (nI law) (nI n) t = _
    unfold m_X3_leastChange_s2
    rw [if_pos (nI_le (Nat.le_refl n) (by omega))]) n 0 v 1000 (by omega) (by omega) hv
  refine ⟨v', hv', ?_⟩
  unfold m_X3_leastChange
  rw [show (0 : Int32) = nI 0 from rfl, e]
  cases fs (chX tv n law) n 0 <;> rfl
/-! the same in the reference: what was found stays -/
def orE (a b : Option Int32) : Option Int32 := match a with
  | some r => some r
  | none => b
def okA (a : Option Int32) : Prop := ∀ r, a = some r → ¬ r = -9
def chN (tv : Nat → Nat) (n law x y c : Nat) : Option Int32 := if first (setT tv (4 * x + y) c) n law = none then some (((100 * nI x) + (10 * nI y)) + nI c) else none
theorem chN_map {tv : Nat → Nat} {n law x y : Nat} : ∀ d c, fs (chN tv n law x y) d c = (fs (chC tv n law (4 * x + y)) d c).map (fun c => ((100 * nI x) + (10 * nI y)) + nI c) := by
  intro d
  induction d with
  | zero => intro c; rfl
  | succ d ih =>
    intro c
    unfold fs chN chC
    by_cases h : first (setT tv (4 * x + y) c) n law = none
    · simp only [h, if_true, Option.map_some]
    · simp only [h, if_false]
      exact ih (c + 1)
theorem chN_ok {tv : Nat → Nat} {n law x y : Nat} (h4 : n ≤ 4) (hx : x < n) (hy : y < n) : ∀ d c, c + d ≤ n → okA (fs (chN tv n law x y) d c) := by
  intro d c hc r h
  obtain ⟨j, _, hj, h⟩ := fs_some _ _ h
  unfold chN at h
  split at h
  · cases h
    rw [num3]
    exact nI_ne9 (by omega)
  · cases h
theorem orE_ok {a b : Option Int32} (ha : okA a) (hb : okA b) : okA (orE a b) := by
  cases a with
  | none => exact hb
  | some r => exact ha
theorem fs_or (P : Nat → Option Int32) (d k : Nat) : fs P (d + 1) k = orE (P k) (fs P d (k + 1)) := by
  rw [fs]
  cases P k <;> rfl
theorem orE_assoc (a b c : Option Int32) : orE (orE a b) c = orE a (orE b c) := by
  cases a <;> rfl
def ex21 (v : Nat → Int32) (tv : Nat → Nat) (n p : Nat) : Prop := exT v tv p ∧ v 20 = nI n
theorem change62 {n x y law : Nat} {tv : Nat → Nat} (hT : okT n tv) (hx : x < n) (hy : y < n) (hl : law < 7) : ∀ d c N v a, c + d = n → d < N → ex21 v tv n (4 * x + y) → okA a → ∃ v', ex21 v' tv n (4 * x + y) ∧ lp (fun q : (Int32 × Int32 × (Nat → Int32)) => m_X9_change_s62 (nI law) (nI x) (nI y) q.1 q.2.1 q.2.2) N (firstI a, nI c, v) = some (firstI (orE a (fs (chN tv n law x y) d c)), v') := by
  have h4 := hT.2.1
  have hp : 4 * x + y < 20 := by omega
  intro d
  induction d with
  | zero =>
    intro c N v a hc hN hv ha
    obtain ⟨N, rfl⟩ : ∃ M, N = M + 1 := ⟨N - 1, by omega⟩
    obtain rfl : c = n := by omega
    refine ⟨v, hv, lp_exit ?_⟩
    show m_X9_change_s62 (nI law) (nI x) (nI y) (firstI a) (nI c) v = _
    unfold m_X9_change_s62
    rw [size_eq hv.2, Option.bind_some, if_pos (nI_le (Nat.le_refl c) (by omega))]
    cases a <;> rfl
  | succ d ih =>
    intro c N v a hc hN hv ha
    obtain ⟨N, rfl⟩ : ∃ M, N = M + 1 := ⟨N - 1, by omega⟩
    have hcn : c < n := by omega
    have hv' : ex21 (upd v (4 * x + y) (nI c)) tv n (4 * x + y) := ⟨exT_upd hv.1, by rw [pk_un (by omega)]; exact hv.2⟩
    have hi := firstI_ne (first_ne (tv := setT tv (4 * x + y) c) (n := n) (law := law) hT.1 h4)
    have ha' : okA (orE a (chN tv n law x y c)) := orE_ok ha (fun r h => by
      unfold chN at h
      split at h
      · cases h; rw [num3]; exact nI_ne9 (by omega)
      · cases h)
    have hstep : m_X9_change_s62 (nI law) (nI x) (nI y) (firstI a) (nI c) v = some (.inl (firstI (orE a (chN tv n law x y c)), nI (c + 1), upd v (4 * x + y) (nI c))) := by
      unfold m_X9_change_s62
      rw [size_eq hv.2, Option.bind_some, if_neg (nI_ge hcn (by omega)), wrI_eq (j := 4 * x + y) (by rw [show (4 : Int32) = nI 4 from rfl, pk_mul, nI_add]) (by omega) (by decide), nI_1]
      cases a with
      | some r =>
        rw [if_neg (show ¬ firstI (some r) = -9 from ha r rfl)]
        rfl
      | none =>
        rw [if_pos (show firstI none = -9 from rfl), firstOf_eq (okT_set hT hx hy hcn) (asT_upd hv.1) hv'.2 hl, Option.bind_some]
        unfold chN
        by_cases h : first (setT tv (4 * x + y) c) n law = none
        · rw [if_pos (hi.mpr h), if_pos h]; rfl
        · rw [if_neg (fun q => h (hi.mp q)), if_neg h]; rfl
    obtain ⟨v2, h2, e2⟩ := ih (c + 1) N _ (orE a (chN tv n law x y c)) (by omega) (by omega) hv' ha'
    refine ⟨v2, h2, ?_⟩
    rw [lp_succ (s := (firstI a, nI c, v)) hstep, e2, orE_assoc, fs_or]
def as21 (v : Nat → Int32) (tv : Nat → Nat) (n : Nat) : Prop := asT v tv ∧ v 20 = nI n
theorem chY_eq {tv : Nat → Nat} {n law x y : Nat} : chY tv n law x y = fs (chN tv n law x y) n 0 := (chN_map n 0).symm
theorem change41 {n x law : Nat} {tv : Nat → Nat} (hT : okT n tv) (hx : x < n) (hl : law < 7) : ∀ d y N v a, y + d = n → d < N → as21 v tv n → okA a → ∃ v', as21 v' tv n ∧ okA (orE a (fs (chY tv n law x) d y)) ∧ lp (fun q : (Int32 × Int32 × (Nat → Int32)) => m_X9_change_s41 (nI law) (nI x) q.1 q.2.1 q.2.2) N (firstI a, nI y, v) = some (firstI (orE a (fs (chY tv n law x) d y)), v') := by
  have h4 := hT.2.1
  intro d
  induction d with
  | zero =>
    intro y N v a hy hN hv ha
    obtain ⟨N, rfl⟩ : ∃ M, N = M + 1 := ⟨N - 1, by omega⟩
    obtain rfl : y = n := by omega
    refine ⟨v, hv, by cases a <;> exact ha, lp_exit ?_⟩
    show m_X9_change_s41 (nI law) (nI x) (firstI a) (nI y) v = _
    unfold m_X9_change_s41
    rw [size_eq hv.2, Option.bind_some, if_pos (nI_le (Nat.le_refl y) (by omega))]
    cases a <;> rfl
  | succ d ih =>
    intro y N v a hy hN hv ha
    obtain ⟨N, rfl⟩ : ∃ M, N = M + 1 := ⟨N - 1, by omega⟩
    have hyn : y < n := by omega
    have hp : 4 * x + y < 20 := by omega
    obtain ⟨v1, h1, e1⟩ := change62 hT hx hyn hl n 0 1000 v a (by omega) (by omega) ⟨fun j hj _ => hv.1 j hj, hv.2⟩ ha
    have ha' : okA (orE a (chY tv n law x y)) := by rw [chY_eq]; exact orE_ok ha (chN_ok h4 hx hyn n 0 (by omega))
    have hv' : as21 (upd v1 (4 * x + y) (nI (tv (4 * x + y)))) tv n := ⟨exT_back h1.1, by rw [pk_un (by omega)]; exact h1.2⟩
    have hstep : m_X9_change_s41 (nI law) (nI x) (firstI a) (nI y) v = some (.inl (firstI (orE a (chY tv n law x y)), nI (y + 1), upd v1 (4 * x + y) (nI (tv (4 * x + y))))) := by
      unfold m_X9_change_s41
      rw [size_eq hv.2, Option.bind_some, if_neg (nI_ge hyn (by omega)), ff_eq hv.1 (by omega) (by omega), Option.bind_some, show (0 : Int32) = nI 0 from rfl, e1, Option.bind_some, wrI_eq (j := 4 * x + y) (by rw [show (4 : Int32) = nI 4 from rfl, pk_mul, nI_add]) (by omega) (by decide), nI_1, chY_eq]
    obtain ⟨v2, h2, h3, e2⟩ := ih (y + 1) N _ (orE a (chY tv n law x y)) (by omega) (by omega) hv' ha'
    have hfs : orE (orE a (chY tv n law x y)) (fs (chY tv n law x) d (y + 1)) = orE a (fs (chY tv n law x) (d + 1) y) := by
      rw [orE_assoc, fs_or]
    refine ⟨v2, h2, hfs ▸ h3, ?_⟩
    rw [lp_succ (s := (firstI a, nI y, v)) hstep, e2, hfs]
theorem change30 {n law : Nat} {tv : Nat → Nat} (hT : okT n tv) (hl : law < 7) : ∀ d x N v a, x + d = n → d < N → as21 v tv n → okA a → ∃ v', as21 v' tv n ∧ lp (fun q : (Int32 × Int32 × (Nat → Int32)) => m_X9_change_s30 (nI law) q.1 q.2.1 q.2.2) N (firstI a, nI x, v) = some (firstI (orE a (fs (chX tv n law) d x)), v') := by
  have h4 := hT.2.1
  intro d
  induction d with
  | zero =>
    intro x N v a hx hN hv ha
    obtain ⟨N, rfl⟩ : ∃ M, N = M + 1 := ⟨N - 1, by omega⟩
    obtain rfl : x = n := by omega
    refine ⟨v, hv, lp_exit ?_⟩
    show m_X9_change_s30 (nI law) (firstI a) (nI x) v = _
    unfold m_X9_change_s30
    rw [size_eq hv.2, Option.bind_some, if_pos (nI_le (Nat.le_refl x) (by omega))]
    cases a <;> rfl
  | succ d ih =>
    intro x N v a hx hN hv ha
    obtain ⟨N, rfl⟩ : ∃ M, N = M + 1 := ⟨N - 1, by omega⟩
    have hxn : x < n := by omega
    obtain ⟨v1, h1, h3, e1⟩ := change41 hT hxn hl n 0 1000 v a (by omega) (by omega) hv ha
    have hstep : m_X9_change_s30 (nI law) (firstI a) (nI x) v = some (.inl (firstI (orE a (chX tv n law x)), nI (x + 1), v1)) := by
      unfold m_X9_change_s30
      rw [size_eq hv.2, Option.bind_some, if_neg (nI_ge hxn (by omega)), show (0 : Int32) = nI 0 from rfl, e1, Option.bind_some, nI_1]
      rfl
    obtain ⟨v2, h2, e2⟩ := ih (x + 1) N _ (orE a (chX tv n law x)) (by omega) (by omega) h1 h3
    refine ⟨v2, h2, ?_⟩
    rw [lp_succ (s := (firstI a, nI x, v)) hstep, e2, orE_assoc, fs_or]
/-! promise 12 -/
theorem copy_eq {s1 s2 : Int32} {f g : Nat → Int32} {tv : Nat → Nat} (hg : asT g tv) : ∃ f', asT f' tv ∧ m_X6_copyFrom s1 f s2 g = some (s2, f') := by
  refine ⟨va_cpy g f 0 0 20, fun j hj => ?_, rfl⟩
  rw [pk_cpy_in (by omega) (by omega), Nat.zero_add, Nat.sub_zero]
  exact hg j hj
theorem agree_change {n : Nat} {v w t : Nat → Int32} {ts : Int32} {tv : Nat → Nat} (hT : okT n tv) (hv : asT v tv) (hw : as21 w tv n) (x : Int32) : ∃ r ts' t' w', m_X8_change (nI n) ts v t x = some (r, (ts', t')) ∧ m_X9_change w x = some (r, w') ∧ as21 w' tv n := by
  unfold m_X8_change m_X9_change
  rcases there_cases x with ⟨e1, e2⟩ | ⟨law, hl, rfl, e1, e2⟩
  · rw [e1, e2, Option.bind_some, Option.bind_some, if_pos rfl, if_pos rfl]
    exact ⟨_, _, _, _, rfl, rfl, hw⟩
  · rw [e1, e2, Option.bind_some, Option.bind_some, if_neg one_ne0, if_neg one_ne0, holds_eq hT hv hl, firstOf_eq hT hw.1 hw.2 hl, Option.bind_some, Option.bind_some]
    have hi := firstI_ne (first_ne (tv := tv) (n := n) (law := law) hT.1 hT.2.1)
    by_cases h : first tv n law = none
    · rw [if_pos h, if_neg one_ne0, if_pos (hi.mpr h)]
      exact ⟨_, _, _, _, rfl, rfl, hw⟩
    · rw [if_neg h, if_pos rfl, if_neg (fun q => h (hi.mp q))]
      obtain ⟨f1, hf1, c1⟩ := copy_eq (s1 := ts) (s2 := nI n) (f := t) hv
      obtain ⟨f2, hf2, c2⟩ := leastChange_eq hT hf1 hl
      obtain ⟨w2, hw2, c3⟩ := change30 hT hl n 0 1000 w none (by omega) (by have := hT.2.1; omega) hw (fun r h => by cases h)
      rw [c1, Option.bind_some]
      have c4 : m_X3_leastChange ((nI n, f1) : Int32 × (Nat → Int32)).1 ((nI n, f1) : Int32 × (Nat → Int32)).2 (nI law) = _ := c2
      rw [c4]
      have c5 : lp (fun q : (Int32 × Int32 × (Nat → Int32)) => m_X9_change_s30 (nI law) q.1 q.2.1 q.2.2) 1000 (-9, 0, w) = _ := c3
      rw [c5]
      exact ⟨_, _, _, _, rfl, rfl, hw2⟩
