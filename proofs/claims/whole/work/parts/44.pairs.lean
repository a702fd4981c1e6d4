/-! members of the list -/
theorem idx_mem {tv : Nat → Nat} {n : Nat} : ∀ k i, i ∈ idx tv n k ↔ i < k ∧ inN n i = true ∧ along9 tv n i = true := by
  intro k
  induction k with
  | zero => intro i; simp [idx]
  | succ k ih =>
    intro i
    unfold idx
    split
    · rename_i h
      rw [List.mem_append, List.mem_singleton, ih i]
      constructor
      · rintro (⟨a, b⟩ | rfl)
        · exact ⟨by omega, b⟩
        · exact ⟨by omega, h⟩
      · rintro ⟨a, b⟩
        by_cases e : i = k
        · exact Or.inr e
        · exact Or.inl ⟨by omega, b⟩
    · rename_i h
      rw [ih i]
      constructor
      · rintro ⟨a, b⟩
        exact ⟨by omega, b⟩
      · rintro ⟨a, b⟩
        refine ⟨?_, b⟩
        by_cases e : i = k
        · subst e; exact absurd b h
        · omega
theorem idx_sorted {tv : Nat → Nat} {n : Nat} : ∀ k, (idx tv n k).Pairwise (· < ·) := by
  intro k
  induction k with
  | zero => exact List.Pairwise.nil
  | succ k ih =>
    unfold idx
    split
    · refine List.pairwise_append.mpr ⟨ih, List.pairwise_singleton _ _, fun a ha b hb => ?_⟩
      rw [List.mem_singleton.mp hb]
      exact ((idx_mem k a).mp ha).1
    · exact ih
theorem getD_mem {l : List Nat} {k : Nat} (h : k < l.length) : l.getD k 0 ∈ l := by
  rw [List.getD_eq_getElem?_getD, List.getElem?_eq_getElem h]
  exact List.getElem_mem h
theorem getD_lt {l : List Nat} (hs : l.Pairwise (· < ·)) {j k : Nat} (h : j < k) (hk : k < l.length) : l.getD j 0 < l.getD k 0 := by
  rw [List.getD_eq_getElem?_getD, List.getD_eq_getElem?_getD, List.getElem?_eq_getElem hk, List.getElem?_eq_getElem (by omega)]
  exact List.pairwise_iff_getElem.mp hs j k (by omega) hk h
theorem mem_getD {l : List Nat} {i : Nat} (h : i ∈ l) : ∃ k, k < l.length ∧ l.getD k 0 = i := by
  obtain ⟨k, hk, e⟩ := List.getElem_of_mem h
  exact ⟨k, hk, by rw [List.getD_eq_getElem?_getD, List.getElem?_eq_getElem hk]; exact e⟩
/-! finite facts of the fifteen -/
def tg (i x y : Nat) : Bool := lsC i x == lsC i y
def fn (n i j : Nat) : Bool := allN (fun x => allN (fun y => !tg i x y || tg j x y) n) n
def bk (n i : Nat) : Nat := ((List.range n).filter (fun x => lsC i x == x)).length
def isMt (n i j k : Nat) : Bool := inN n k && allN (fun x => allN (fun y => tg k x y == (tg i x y && tg j x y)) n) n
def mt (n i j : Nat) : Nat := ((List.range 15).find? (isMt n i j)).getD 0
theorem mt_ok0 : ∀ n, n < 5 → ∀ i, i < 15 → ∀ j, j < 15 → (!(decide (1 ≤ n) && inN n i && inN n j) || isMt n i j (mt n i j)) = true := by decide +kernel
theorem mt_ok (n : Nat) (hn : n < 5) (h1 : 1 ≤ n) (i : Nat) (hi : i < 15) (h2 : inN n i = true) (j : Nat) (hj : j < 15) (h3 : inN n j = true) : isMt n i j (mt n i j) = true := orN (mt_ok0 n hn i hi j hj) (by rw [h2, h3, decide_eq_true h1]; rfl)
theorem fn_lt0 : ∀ n, n < 5 → ∀ i, i < 15 → ∀ j, j < 15 → (!(decide (1 ≤ n) && inN n i && inN n j && fn n i j && decide (i ≠ j)) || (decide (j < i) && decide (bk n j < bk n i))) = true := by decide +kernel
theorem fn_lt (n : Nat) (hn : n < 5) (h1 : 1 ≤ n) (i : Nat) (hi : i < 15) (h2 : inN n i = true) (j : Nat) (hj : j < 15) (h3 : inN n j = true) (h4 : fn n i j = true) (h5 : i ≠ j) : j < i ∧ bk n j < bk n i := by
  have q := orN (fn_lt0 n hn i hi j hj) (by rw [h2, h3, h4, decide_eq_true h1, decide_eq_true h5]; rfl)
  simp only [Bool.and_eq_true, decide_eq_true_eq] at q
  exact q
def tp (n : Nat) : Nat := if n = 4 then 0 else if n = 3 then 1 else if n = 2 then 4 else 14
theorem tp_ok1 : ∀ n, n < 5 → (!decide (1 ≤ n) || (decide (tp n < 15) && inN n (tp n))) = true := by decide +kernel
theorem tp_ok2 : ∀ n, n < 5 → ∀ x, x < 4 → (!decide (x < n) || (lsC (tp n) x == 0)) = true := by decide +kernel
theorem tp_ok3 : ∀ n, n < 5 → ∀ i, i < 15 → (!(decide (1 ≤ n) && inN n i) || decide (tp n ≤ i)) = true := by decide +kernel
theorem tp_ok (n : Nat) (hn : n < 5) (h1 : 1 ≤ n) : tp n < 15 ∧ inN n (tp n) = true ∧ (∀ x, x < n → lsC (tp n) x = 0) ∧ ∀ i, i < 15 → inN n i = true → tp n ≤ i := by
  have q := orN (tp_ok1 n hn) (decide_eq_true h1)
  simp only [Bool.and_eq_true, decide_eq_true_eq] at q
  refine ⟨q.1, q.2, fun x hx => ?_, fun i hi h => ?_⟩
  · have q := orN (tp_ok2 n hn x (by omega)) (decide_eq_true hx)
    simpa using q
  · have q := orN (tp_ok3 n hn i hi) (by rw [h, decide_eq_true h1]; rfl)
    simpa using q
theorem bk_le : ∀ n, n < 5 → ∀ i, i < 15 → bk n i ≤ 4 := by decide +kernel
theorem fn_iff {n i j : Nat} : fn n i j = true ↔ ∀ x, x < n → ∀ y, y < n → tg i x y = true → tg j x y = true := by
  simp only [fn, allN_iff, Bool.or_eq_true, Bool.not_eq_true']
  constructor
  · intro h x hx y hy e
    rcases h x hx y hy with q | q
    · rw [e] at q; cases q
    · exact q
  · intro h x hx y hy
    cases e : tg i x y
    · exact Or.inl rfl
    · exact Or.inr (h x hx y hy e)
theorem isMt_iff {n i j k : Nat} : isMt n i j k = true ↔ inN n k = true ∧ ∀ x, x < n → ∀ y, y < n → tg k x y = (tg i x y && tg j x y) := by
  simp only [isMt, Bool.and_eq_true, allN_iff, beq_iff_eq]
theorem along9_iff {tv : Nat → Nat} {n i : Nat} : along9 tv n i = true ↔ ∀ x, x < n → ∀ y, y < n → tg i x y = true → tg i (tv (16 + x)) (tv (16 + y)) = true ∧ ∀ z, z < n → tg i (tv (4 * x + z)) (tv (4 * y + z)) = true ∧ tg i (tv (4 * z + x)) (tv (4 * z + y)) = true := by
  simp only [along9, allN_iff, Bool.or_eq_true, Bool.not_eq_true', tgx_iff, tg, beq_iff_eq, beq_eq_false_iff_ne]
  constructor
  · intro h x hx y hy e
    rcases h x hx y hy with q | q
    · exact absurd e q
    · exact q
  · intro h x hx y hy
    by_cases e : lsC i x = lsC i y
    · exact Or.inr (h x hx y hy e)
    · exact Or.inl e
theorem along_mt {tv : Nat → Nat} {n i j k : Nat} (hT : okT n tv) (hk : isMt n i j k = true) (hi : along9 tv n i = true) (hj : along9 tv n j = true) : along9 tv n k = true := by
  obtain ⟨_, _, _, hf, hg⟩ := hT
  obtain ⟨_, hm⟩ := isMt_iff.mp hk
  rw [along9_iff] at hi hj ⊢
  have cut : ∀ x y, x < n → y < n → (tg k x y = true ↔ tg i x y = true ∧ tg j x y = true) := fun x y hx hy => by rw [hm x hx y hy, Bool.and_eq_true]
  intro x hx y hy e
  obtain ⟨e1, e2⟩ := (cut x y hx hy).mp e
  obtain ⟨a1, a2⟩ := hi x hx y hy e1
  obtain ⟨b1, b2⟩ := hj x hx y hy e2
  refine ⟨(cut _ _ (hg x hx) (hg y hy)).mpr ⟨a1, b1⟩, fun z hz => ⟨?_, ?_⟩⟩
  · exact (cut _ _ (hf x z hx hz) (hf y z hy hz)).mpr ⟨(a2 z hz).1, (b2 z hz).1⟩
  · exact (cut _ _ (hf z x hz hx) (hf z y hz hy)).mpr ⟨(a2 z hz).2, (b2 z hz).2⟩
theorem along_tp {tv : Nat → Nat} {n : Nat} (hT : okT n tv) : along9 tv n (tp n) = true := by
  obtain ⟨h1, h4, _, hf, hg⟩ := hT
  obtain ⟨_, _, h0, _⟩ := tp_ok n (by omega) h1
  rw [along9_iff]
  intro x hx y hy _
  refine ⟨?_, fun z hz => ⟨?_, ?_⟩⟩
  · simp only [tg, h0 _ (hg x hx), h0 _ (hg y hy), beq_self_eq_true]
  · simp only [tg, h0 _ (hf x z hx hz), h0 _ (hf y z hy hz), beq_self_eq_true]
  · simp only [tg, h0 _ (hf z x hz hx), h0 _ (hf z y hz hy), beq_self_eq_true]
/-- the list is not empty, and begins with the coarsest -/
theorem idx_top {tv : Nat → Nat} {n : Nat} (hT : okT n tv) : 0 < (idx tv n 15).length ∧ (idx tv n 15).getD 0 0 = tp n := by
  have h1 := hT.1
  have h4 := hT.2.1
  obtain ⟨t1, t2, t3, t4⟩ := tp_ok n (by omega) h1
  obtain ⟨k, hk, e⟩ := mem_getD ((idx_mem (tv := tv) (n := n) 15 (tp n)).mpr ⟨t1, t2, along_tp hT⟩)
  refine ⟨by omega, ?_⟩
  by_cases h0 : k = 0
  · subst h0; exact e
  · exfalso
    have hl := getD_lt (idx_sorted (tv := tv) (n := n) 15) (j := 0) (k := k) (by omega) hk
    have hm := (idx_mem (tv := tv) (n := n) 15 _).mp (getD_mem (l := idx tv n 15) (k := 0) (by omega))
    have := t4 _ hm.1 hm.2.1
    omega
/-! last and best ones -/
def ld (P : Nat → Bool) : Nat → Nat
  | 0 => 0
  | k + 1 => if P (k + 1) = true then k + 1 else ld P k
theorem ld_spec {P : Nat → Bool} (h0 : P 0 = true) : ∀ e, P (ld P e) = true ∧ ld P e ≤ e ∧ ∀ k, k ≤ e → P k = true → k ≤ ld P e := by
  intro e
  induction e with
  | zero => exact ⟨h0, Nat.le_refl 0, fun k hk _ => hk⟩
  | succ e ih =>
    unfold ld
    split
    · rename_i h
      exact ⟨h, Nat.le_refl _, fun k hk _ => hk⟩
    · rename_i h
      refine ⟨ih.1, by omega, fun k hk hp => ?_⟩
      by_cases q : k = e + 1
      · subst q; exact absurd hp h
      · exact ih.2.2 k (by omega) hp
def upB (o : Option Nat) (k : Nat) (b : Bool) (B : Nat → Bool) : Option Nat := match o with
  | none => if b = true then some k else none
  | some j => if (b && B j) = true then some k else some j
def bw (P : Nat → Bool) (B : Nat → Nat → Bool) : Nat → Option Nat
  | 0 => none
  | k + 1 => upB (bw P B k) k (P k) (fun j => B j k)
theorem upB_some {o : Option Nat} {k j : Nat} {b : Bool} {B : Nat → Bool} (h : upB o k b B = some j) : (j = k ∧ b = true) ∨ o = some j := by
  unfold upB at h
  cases o with
  | none =>
    simp only at h
    split at h
    · rename_i q; exact Or.inl ⟨(Option.some.inj h).symm, q⟩
    · cases h
  | some r =>
    simp only at h
    split at h
    · rename_i q
      rw [Bool.and_eq_true] at q
      exact Or.inl ⟨(Option.some.inj h).symm, q.1⟩
    · exact Or.inr h
/-- where g is better than all others, it is the best -/
theorem bw_mem {P : Nat → Bool} {B : Nat → Nat → Bool} : ∀ k j, bw P B k = some j → j < k ∧ P j = true := by
  intro k
  induction k with
  | zero => intro j h; cases h
  | succ k ih =>
    intro j h
    rcases upB_some h with ⟨rfl, h1⟩ | h1
    · exact ⟨by omega, h1⟩
    · exact ⟨by have := (ih j h1).1; omega, (ih j h1).2⟩
theorem bw_spec {P : Nat → Bool} {B : Nat → Nat → Bool} {g e : Nat} (hg : P g = true) (hB : ∀ k, k < e → P k = true → k ≠ g → B k g = true ∧ B g k = false) : ∀ k, k ≤ e → g < k → bw P B k = some g := by
  intro k
  induction k with
  | zero => intro _ h; omega
  | succ k ih =>
    intro hk hgk
    show upB (bw P B k) k (P k) (fun j => B j k) = some g
    by_cases e1 : k = g
    · subst e1
      cases hb : bw P B k with
      | none => simp only [upB, hg, if_true]
      | some r =>
        obtain ⟨q1, q2⟩ := bw_mem k r hb
        have := (hB r (by omega) q2 (by omega)).1
        simp only [upB, hg, this, Bool.and_self, if_true]
    · rw [ih (by omega) (by omega)]
      cases hp : P k
      · simp [upB]
      · have := (hB k (by omega) hp e1).2
        simp [upB, this]
/-! what depends on the size and the partitions alone, by trying all -/
def two2 (a b : Int32) : Nat → Int32 := fun j => if j = 0 then a else b
def nmI (n i : Nat) : Int32 := (m_X9_nameOf (fun _ => nI n) (nI (rc n i))).getD 0
def pmI (n i j : Nat) : Int32 := (m_X9_permute (fun _ => nI n) (nI (rc n i)) (nI (rc n j))).getD 0
theorem name9_fin : ∀ n, n < 5 → ∀ i, i < 15 → m_X9_nameOf (fun _ => nI n) (nI (rc n i)) = some (nmI n i) := by decide +kernel
theorem name1_fin : ∀ n, n < 5 → ∀ i, i < 15 → m_X1_nameOf 1 (nI n) (fun _ => PT i) 0 = some (nmI n i) := by decide +kernel
theorem blocks_fin : ∀ n, n < 5 → ∀ i, i < 15 → m_X9_blocks (fun _ => nI n) (nI (rc n i)) = some (nI (bk n i)) := by decide +kernel
theorem finer9_fin : ∀ n, n < 5 → ∀ i, i < 15 → ∀ j, j < 15 → m_X9_isFiner (fun _ => nI n) (nI (rc n i)) (nI (rc n j)) = some (bI (fn n i j)) := by decide +kernel
theorem finer1_fin0 : ∀ n, n < 5 → ∀ i, i < 15 → ∀ j, j < 15 → (!(inN n i && inN n j) || decide (m_X1_isFiner 2 (nI n) (two2 (PT i) (PT j)) 0 1 = some (bI (fn n i j)))) = true := by decide +kernel
theorem finer1_fin (n : Nat) (hn : n < 5) (i : Nat) (hi : i < 15) (h1 : inN n i = true) (j : Nat) (hj : j < 15) (h2 : inN n j = true) : m_X1_isFiner 2 (nI n) (two2 (PT i) (PT j)) 0 1 = some (bI (fn n i j)) := of_decide_eq_true (orN (finer1_fin0 n hn i hi j hj) (by rw [h1, h2]; rfl))
theorem perm9_fin0 : ∀ n, n < 5 → ∀ i, i < 15 → ∀ j, j < 15 → (!(inN n i && inN n j) || decide (m_X9_permute (fun _ => nI n) (nI (rc n i)) (nI (rc n j)) = some (pmI n i j))) = true := by decide +kernel
theorem perm9_fin (n : Nat) (hn : n < 5) (i : Nat) (hi : i < 15) (h1 : inN n i = true) (j : Nat) (hj : j < 15) (h2 : inN n j = true) : m_X9_permute (fun _ => nI n) (nI (rc n i)) (nI (rc n j)) = some (pmI n i j) := of_decide_eq_true (orN (perm9_fin0 n hn i hi j hj) (by rw [h1, h2]; rfl))
theorem perm1_fin0 : ∀ n, n < 5 → ∀ i, i < 15 → ∀ j, j < 15 → (!(inN n i && inN n j) || decide (m_X1_permute 2 (nI n) (two2 (PT i) (PT j)) 0 1 = some (pmI n i j))) = true := by decide +kernel
theorem perm1_fin (n : Nat) (hn : n < 5) (i : Nat) (hi : i < 15) (h1 : inN n i = true) (j : Nat) (hj : j < 15) (h2 : inN n j = true) : m_X1_permute 2 (nI n) (two2 (PT i) (PT j)) 0 1 = some (pmI n i j) := of_decide_eq_true (orN (perm1_fin0 n hn i hi j hj) (by rw [h1, h2]; rfl))
theorem name9_eq {n i : Nat} {v : Nat → Int32} (hz : v 20 = nI n) (h4 : n ≤ 4) (hi : i < 15) : m_X9_nameOf v (nI (rc n i)) = some (nmI n i) := by
  rw [← name9_fin n (by omega) i hi]
  unfold m_X9_nameOf
  have e : (fun q : (Int32 × Int32) => m_X9_nameOf_s4 v (nI (rc n i)) q.1 q.2) = (fun q : (Int32 × Int32) => m_X9_nameOf_s4 (fun _ => nI n) (nI (rc n i)) q.1 q.2) := by
    funext q
    unfold m_X9_nameOf_s4
    rw [size_eq hz, size_eq (v := fun _ => nI n) rfl]
  rw [e]
theorem blocks_eq {n i : Nat} {v : Nat → Int32} (hz : v 20 = nI n) (h4 : n ≤ 4) (hi : i < 15) : m_X9_blocks v (nI (rc n i)) = some (nI (bk n i)) := by
  rw [← blocks_fin n (by omega) i hi]
  unfold m_X9_blocks
  have e : (fun q : (Int32 × Int32) => m_X9_blocks_s4 v (nI (rc n i)) q.1 q.2) = (fun q : (Int32 × Int32) => m_X9_blocks_s4 (fun _ => nI n) (nI (rc n i)) q.1 q.2) := by
    funext q
    unfold m_X9_blocks_s4
    rw [size_eq hz, size_eq (v := fun _ => nI n) rfl]
  rw [e]
theorem finer9_eq {n i j : Nat} {v : Nat → Int32} (hz : v 20 = nI n) (h4 : n ≤ 4) (hi : i < 15) (hj : j < 15) : m_X9_isFiner v (nI (rc n i)) (nI (rc n j)) = some (bI (fn n i j)) := by
  rw [← finer9_fin n (by omega) i hi j hj]
  unfold m_X9_isFiner
  have e : (fun q : (Int32 × Int32) => m_X9_isFiner_s5 v (nI (rc n i)) (nI (rc n j)) q.1 q.2) = (fun q : (Int32 × Int32) => m_X9_isFiner_s5 (fun _ => nI n) (nI (rc n i)) (nI (rc n j)) q.1 q.2) := by
    funext q
    unfold m_X9_isFiner_s5
    rw [size_eq hz, size_eq (v := fun _ => nI n) rfl]
  rw [e]
theorem thr9_same {n : Nat} {v : Nat → Int32} (hz : v 20 = nI n) (a b x y : Int32) : m_X9_isThrough v a b x y = m_X9_isThrough (fun _ => nI n) a b x y := by
  unfold m_X9_isThrough
  have e : (fun q : (Int32 × Int32) => m_X9_isThrough_s6 v a b x y q.1 q.2) = (fun q : (Int32 × Int32) => m_X9_isThrough_s6 (fun _ => nI n) a b x y q.1 q.2) := by
    funext q
    unfold m_X9_isThrough_s6
    rw [size_eq hz, size_eq (v := fun _ => nI n) rfl]
  rw [e]
theorem perm9_eq {n i j : Nat} {v : Nat → Int32} (hz : v 20 = nI n) (h4 : n ≤ 4) (hi : inN n i = true) (hj : inN n j = true) : m_X9_permute v (nI (rc n i)) (nI (rc n j)) = some (pmI n i j) := by
  rw [← perm9_fin n (by omega) i (inN_lt hi) hi j (inN_lt hj) hj]
  unfold m_X9_permute
  have e17 : ∀ x, (fun q : (Int32 × Int32) => m_X9_permute_s17 v (nI (rc n i)) (nI (rc n j)) x q.1 q.2) = (fun q : (Int32 × Int32) => m_X9_permute_s17 (fun _ => nI n) (nI (rc n i)) (nI (rc n j)) x q.1 q.2) := by
    intro x
    funext q
    unfold m_X9_permute_s17
    rw [size_eq hz, size_eq (v := fun _ => nI n) rfl]
    simp only [thr9_same hz]
  have e : (fun q : (Int32 × Int32) => m_X9_permute_s5 v (nI (rc n i)) (nI (rc n j)) q.1 q.2) = (fun q : (Int32 × Int32) => m_X9_permute_s5 (fun _ => nI n) (nI (rc n i)) (nI (rc n j)) q.1 q.2) := by
    funext q
    unfold m_X9_permute_s5
    rw [size_eq hz, size_eq (v := fun _ => nI n) rfl, e17]
  rw [e]
/-! the class finds a partition by its number in the list -/
theorem there_eq {m k : Nat} (hk : k < m) (hm : m ≤ 15) : m_X1_isThere (nI m) (nI k) = some 1 := by
  unfold m_X1_isThere
  rw [if_neg (nI_pos (by omega)), if_neg (nI_ge hk (by omega)), show (15 : Int32) = nI 15 from rfl, if_neg (nI_ge (by omega) (by decide))]
theorem part_eq {l : List Nat} {p : Nat → Int32} {k : Nat} (hp : holdsL p l PT) (hk : k < l.length) (hm : l.length ≤ 15) : m_X1_partition (nI l.length) p (nI k) = some (PT (l.getD k 0)) := by
  unfold m_X1_partition
  rw [there_eq hk hm, Option.bind_some, if_neg one_ne0, rd_eq rfl (by omega) (by decide), hp k hk]
theorem part_two {a b : Int32} : m_X1_partition 2 (two2 a b) 0 = some a ∧ m_X1_partition 2 (two2 a b) 1 = some b := by
  refine ⟨?_, ?_⟩
  · show m_X1_partition (nI 2) (two2 a b) (nI 0) = _
    unfold m_X1_partition
    rw [there_eq (by decide) (by decide), Option.bind_some, if_neg one_ne0, rd_eq rfl (by decide) (by decide)]
    rfl
  · show m_X1_partition (nI 2) (two2 a b) (nI 1) = _
    unfold m_X1_partition
    rw [there_eq (by decide) (by decide), Option.bind_some, if_neg one_ne0, rd_eq rfl (by decide) (by decide)]
    rfl
theorem part_one {a : Int32} : m_X1_partition 1 (fun _ => a) 0 = some a := by
  show m_X1_partition (nI 1) (fun _ => a) (nI 0) = _
  unfold m_X1_partition
  rw [there_eq (by decide) (by decide), Option.bind_some, if_neg one_ne0, rd_eq rfl (by decide) (by decide)]
theorem finer1_eq {n : Nat} {l : List Nat} {p : Nat → Int32} {a b : Nat} (h4 : n ≤ 4) (hp : holdsL p l PT) (hm : l.length ≤ 15) (ha : a < l.length) (hb : b < l.length) (hi : inN n (l.getD a 0) = true) (hj : inN n (l.getD b 0) = true) : m_X1_isFiner (nI l.length) (nI n) p (nI a) (nI b) = some (bI (fn n (l.getD a 0) (l.getD b 0))) := by
  rw [← finer1_fin n (by omega) _ (inN_lt hi) hi _ (inN_lt hj) hj]
  unfold m_X1_isFiner
  have e : (fun q : Int32 => m_X1_isFiner_s2 (nI l.length) (nI n) p (nI a) (nI b) q) = (fun q : Int32 => m_X1_isFiner_s2 2 (nI n) (two2 (PT (l.getD a 0)) (PT (l.getD b 0))) 0 1 q) := by
    funext q
    unfold m_X1_isFiner_s2
    rw [part_eq hp hb hm, part_eq hp ha hm, part_two.1, part_two.2]
  rw [e]
theorem link1_same {n : Nat} {l : List Nat} {p : Nat → Int32} {a b : Nat} (hp : holdsL p l PT) (hm : l.length ≤ 15) (ha : a < l.length) (hb : b < l.length) (x y : Int32) : m_X1_isLinked (nI l.length) (nI n) p (nI a) (nI b) x y = m_X1_isLinked 2 (nI n) (two2 (PT (l.getD a 0)) (PT (l.getD b 0))) 0 1 x y ∧ m_X1_isLinked (nI l.length) (nI n) p (nI b) (nI a) x y = m_X1_isLinked 2 (nI n) (two2 (PT (l.getD a 0)) (PT (l.getD b 0))) 1 0 x y := by
  refine ⟨?_, ?_⟩
  · unfold m_X1_isLinked
    have e : (fun q : Int32 => m_X1_isLinked_s3 (nI l.length) (nI n) p (nI a) (nI b) x y q) = (fun q : Int32 => m_X1_isLinked_s3 2 (nI n) (two2 (PT (l.getD a 0)) (PT (l.getD b 0))) 0 1 x y q) := by
      funext q
      unfold m_X1_isLinked_s3
      rw [part_eq hp hb hm, part_eq hp ha hm, part_two.1, part_two.2]
    rw [e]
  · unfold m_X1_isLinked
    have e : (fun q : Int32 => m_X1_isLinked_s3 (nI l.length) (nI n) p (nI b) (nI a) x y q) = (fun q : Int32 => m_X1_isLinked_s3 2 (nI n) (two2 (PT (l.getD a 0)) (PT (l.getD b 0))) 1 0 x y q) := by
      funext q
      unfold m_X1_isLinked_s3
      rw [part_eq hp hb hm, part_eq hp ha hm, part_two.1, part_two.2]
    rw [e]
theorem perm1_eq {n : Nat} {l : List Nat} {p : Nat → Int32} {a b : Nat} (h4 : n ≤ 4) (hp : holdsL p l PT) (hm : l.length ≤ 15) (ha : a < l.length) (hb : b < l.length) (hi : inN n (l.getD a 0) = true) (hj : inN n (l.getD b 0) = true) : m_X1_permute (nI l.length) (nI n) p (nI a) (nI b) = some (pmI n (l.getD a 0) (l.getD b 0)) := by
  rw [← perm1_fin n (by omega) _ (inN_lt hi) hi _ (inN_lt hj) hj]
  unfold m_X1_permute
  have e13 : ∀ x, (fun q : Int32 => m_X1_permute_s13 (nI l.length) (nI n) p (nI a) (nI b) x q) = (fun q : Int32 => m_X1_permute_s13 2 (nI n) (two2 (PT (l.getD a 0)) (PT (l.getD b 0))) 0 1 x q) := by
    intro x
    funext q
    unfold m_X1_permute_s13
    rw [(link1_same hp hm ha hb x q).1, (link1_same hp hm ha hb x q).2]
  have e : (fun q : Int32 => m_X1_permute_s2 (nI l.length) (nI n) p (nI a) (nI b) q) = (fun q : Int32 => m_X1_permute_s2 2 (nI n) (two2 (PT (l.getD a 0)) (PT (l.getD b 0))) 0 1 q) := by
    funext q
    unfold m_X1_permute_s2
    rw [e13]
  rw [e]
theorem name1_eq {n : Nat} {l : List Nat} {p : Nat → Int32} {a : Nat} (h4 : n ≤ 4) (hp : holdsL p l PT) (hm : l.length ≤ 15) (ha : a < l.length) (hi : l.getD a 0 < 15) : m_X1_nameOf (nI l.length) (nI n) p (nI a) = some (nmI n (l.getD a 0)) := by
  rw [← name1_fin n (by omega) _ hi]
  unfold m_X1_nameOf
  have e : (fun q : (Int32 × Int32) => m_X1_nameOf_s4 (nI l.length) (nI n) p (nI a) q.1 q.2) = (fun q : (Int32 × Int32) => m_X1_nameOf_s4 1 (nI n) (fun _ => PT (l.getD a 0)) 0 q.1 q.2) := by
    funext q
    unfold m_X1_nameOf_s4
    rw [part_eq hp ha hm, part_one]
  rw [e]
theorem there_no {m k : Nat} (hk : ¬ k < m) (h : k < 2 ^ 31) : m_X1_isThere (nI m) (nI k) = some 0 := by
  unfold m_X1_isThere
  rw [if_neg (nI_pos h), if_pos (nI_le (by omega) h)]
/-! promise 13 -/
theorem agree_congruence {n : Nat} {v w : Nat → Int32} {tv : Nat → Nat} (hT : okT n tv) (hv : asT v tv) (hw : asT w tv) (hz : w 20 = nI n) (f0 s0 m0 : Int32) (p0 q0 : Nat → Int32) (x : Int32) : ∃ r u u', m_X8_congruence f0 s0 (nI n) p0 v x = some (r, u) ∧ m_X9_congruence m0 q0 w x = some (r, u') := by
  have h4 := hT.2.1
  have hlen := idx_len tv n 15
  unfold m_X8_congruence m_X9_congruence
  by_cases h0 : 0 ≤ x
  · obtain ⟨p, hp, e1⟩ := seekIn_eq hT hv f0 s0 p0
    obtain ⟨q, hq, e2⟩ := lay_eq hT hw hz m0 q0
    obtain ⟨k, hk, rfl⟩ := nI_of (fun q => Int32.not_le.mpr q h0)
    rw [if_pos h0, if_pos h0, e1, e2, Option.bind_some, Option.bind_some]
    dsimp only
    by_cases hc : k < (idx tv n 15).length
    · have hm := (idx_mem (tv := tv) (n := n) 15 _).mp (getD_mem hc)
      rw [there_eq hc hlen, Option.bind_some, if_neg one_ne0, name1_eq h4 hp hlen hc hm.1, Option.bind_some, if_neg (nI_ge hc (by omega)), rd_eq rfl (by omega) (by decide), hq k hc, name9_eq hz h4 hm.1, Option.bind_some]
      exact ⟨_, _, _, rfl, rfl⟩
    · rw [there_no hc hk, Option.bind_some, if_pos rfl, if_pos (nI_le (by omega) hk)]
      exact ⟨_, _, _, rfl, rfl⟩
  · rw [if_neg h0, if_neg h0]
    exact ⟨_, _, _, rfl, rfl⟩
/-! the finest -/
theorem finest {tv : Nat → Nat} {n : Nat} (hT : okT n tv) (Φ : Nat → Bool) (htop : Φ (tp n) = true) (hmt : ∀ i j k, isMt n i j k = true → Φ i = true → Φ j = true → Φ k = true) : ∃ g, g < (idx tv n 15).length ∧ ld (fun k => Φ ((idx tv n 15).getD k 0)) ((idx tv n 15).length - 1) = g ∧ Φ ((idx tv n 15).getD g 0) = true ∧ ∀ k, k < (idx tv n 15).length → Φ ((idx tv n 15).getD k 0) = true → k ≠ g → bk n ((idx tv n 15).getD k 0) < bk n ((idx tv n 15).getD g 0) := by
  have h1 := hT.1
  have h4 := hT.2.1
  have hn5 : n < 5 := by omega
  obtain ⟨t1, t2⟩ := idx_top hT
  obtain ⟨s1, s2, s3⟩ := ld_spec (P := fun k => Φ ((idx tv n 15).getD k 0)) (by rw [t2]; exact htop) ((idx tv n 15).length - 1)
  refine ⟨_, by omega, rfl, s1, fun k hk hp hne => ?_⟩
  generalize ld (fun k => Φ ((idx tv n 15).getD k 0)) ((idx tv n 15).length - 1) = g at s1 s2 s3 hne ⊢
  have hg : g < (idx tv n 15).length := by omega
  have mg := (idx_mem (tv := tv) (n := n) 15 _).mp (getD_mem hg)
  have mk := (idx_mem (tv := tv) (n := n) 15 _).mp (getD_mem hk)
  have hM := mt_ok n hn5 h1 _ mg.1 mg.2.1 _ mk.1 mk.2.1
  have hMi := isMt_iff.mp hM
  obtain ⟨t, ht, et⟩ := mem_getD ((idx_mem (tv := tv) (n := n) 15 _).mpr ⟨inN_lt hMi.1, hMi.1, along_mt hT hM mg.2.2 mk.2.2⟩)
  have hpt : Φ ((idx tv n 15).getD t 0) = true := by rw [et]; exact hmt _ _ _ hM s1 hp
  have htg := s3 t (by omega) hpt
  have fMg : fn n (mt n ((idx tv n 15).getD g 0) ((idx tv n 15).getD k 0)) ((idx tv n 15).getD g 0) = true := fn_iff.mpr (fun x hx y hy e => by rw [hMi.2 x hx y hy, Bool.and_eq_true] at e; exact e.1)
  have fMk : fn n (mt n ((idx tv n 15).getD g 0) ((idx tv n 15).getD k 0)) ((idx tv n 15).getD k 0) = true := fn_iff.mpr (fun x hx y hy e => by rw [hMi.2 x hx y hy, Bool.and_eq_true] at e; exact e.2)
  have heq : mt n ((idx tv n 15).getD g 0) ((idx tv n 15).getD k 0) = (idx tv n 15).getD g 0 := by
    by_cases q : mt n ((idx tv n 15).getD g 0) ((idx tv n 15).getD k 0) = (idx tv n 15).getD g 0
    · exact q
    · exfalso
      have hlt := (fn_lt n hn5 h1 _ (inN_lt hMi.1) hMi.1 _ mg.1 mg.2.1 fMg q).1
      rw [← et] at hlt
      rcases Nat.lt_or_ge t g with a | a
      · have := getD_lt (idx_sorted (tv := tv) (n := n) 15) a hg
        omega
      · rw [show t = g by omega] at hlt
        omega
  rw [heq] at fMk
  refine (fn_lt n hn5 h1 _ mg.1 mg.2.1 _ mk.1 mk.2.1 fMk (fun q => ?_)).2
  rcases Nat.lt_trichotomy k g with a | a | a
  · have := getD_lt (idx_sorted (tv := tv) (n := n) 15) a hg; omega
  · exact hne a
  · have := getD_lt (idx_sorted (tv := tv) (n := n) 15) a hk; omega
/-- a search from above -/
theorem lp_down {step : Int32 → Option (Int32 ⊕ (Int32 ⊕ Unit))} (P : Nat → Bool) (e : Nat) (he : e < 2 ^ 31) (h0 : step (nI 0) = some (.inr (.inr ()))) (hs : ∀ k, k < e → step (nI (k + 1)) = some (if P (k + 1) = true then .inr (.inl (nI (k + 1))) else .inl (nI k))) : ∀ d N, d ≤ e → d < N → bdS (lp step N (nI d)) (fun u => some u) (fun _ => some (0 : Int32)) = some (nI (ld P d)) := by
  intro d
  induction d with
  | zero =>
    intro N _ hN
    obtain ⟨N, rfl⟩ : ∃ M, N = M + 1 := ⟨N - 1, by omega⟩
    rw [lp_exit h0]
    rfl
  | succ d ih =>
    intro N hd hN
    obtain ⟨N, rfl⟩ : ∃ M, N = M + 1 := ⟨N - 1, by omega⟩
    have h1 := hs d (by omega)
    by_cases hp : P (d + 1) = true
    · rw [if_pos hp] at h1
      rw [lp_exit h1]
      simp only [ld, hp, if_true]
      rfl
    · rw [if_neg hp] at h1
      rw [lp_succ h1, ih N (by omega) (by omega)]
      simp only [ld, hp, if_false]
      rfl
/-- the best, as the reference keeps it -/
def enc (o : Option Nat) : Int32 := match o with
  | none => -9
  | some j => nI j
theorem lp_best {step : (Int32 × Int32) → Option ((Int32 × Int32) ⊕ Int32)} (P : Nat → Bool) (B : Nat → Nat → Bool) (e : Nat) (he : e < 1000) (hs : ∀ k o, k < e → (∀ j, o = some j → j < k) → step (enc o, nI k) = some (.inl (enc (upB o k (P k) (fun j => B j k)), nI (k + 1)))) (hx : ∀ o, step (enc o, nI e) = some (.inr (enc o))) : lp step 1000 (-9, 0) = some (enc (bw P B e)) := by
  refine lp_seq0 (fun k => (enc (bw P B k), nI k)) e rfl (fun k hk => ?_) (hx _) he
  rw [hs k _ hk (fun j h => (bw_mem k j h).1)]
  rfl
theorem enc_ne {j : Nat} (h : j < 2 ^ 31) : ¬ enc (some j) = -9 := nI_ne9 h
theorem is_eq {n : Nat} {v : Nat → Int32} (hz : v 20 = nI n) (h1 : 1 ≤ n) (h4 : n ≤ 4) (x : Int32) : (∃ k, k < n ∧ x = nI k ∧ m_X6_has (nI n) x = some 1 ∧ m_X9_is v x = some 1) ∨ (m_X6_has (nI n) x = some 0 ∧ m_X9_is v x = some 0) := by
  unfold m_X6_has m_X9_is
  rw [size_eq hz, Option.bind_some, show (1 : Int32) = nI 1 from rfl, pk_sub h1, in_eq, Option.bind_some]
  by_cases h0 : x < 0
  · right
    rw [if_pos h0, if_pos h0]
    exact ⟨rfl, rfl⟩
  · obtain ⟨k, hk, rfl⟩ := nI_of h0
    rw [if_neg h0, if_neg h0]
    by_cases hc : k < n
    · left
      refine ⟨k, hc, rfl, ?_, ?_⟩
      · rw [if_neg (nI_ge hc (by omega))]
      · rw [if_neg (nI_nlt (by omega) (by omega))]; rfl
    · right
      refine ⟨?_, ?_⟩
      · rw [if_pos (nI_le (by omega) hk)]
      · rw [if_pos (nI_lt (by omega) hk)]; rfl
theorem ble5 : ∀ a, a < 5 → ∀ b, b < 5 → (nI a ≤ nI b ↔ a ≤ b) ∧ (nI a - nI b ≤ 0 ↔ a ≤ b) ∧ (0 ≤ nI a - nI b ↔ b ≤ a) := by decide +kernel
theorem finestWith_eq {n : Nat} {tv : Nat → Nat} {p : Nat → Int32} (hT : okT n tv) (hp : holdsL p (idx tv n 15) PT) {x y : Nat} (hx : x < n) (hy : y < n) : m_X1_finestWith (nI (idx tv n 15).length) p (nI x) (nI y) = some (nI (ld (fun k => tg ((idx tv n 15).getD k 0) x y) ((idx tv n 15).length - 1))) := by
  have h4 := hT.2.1
  have hlen := idx_len tv n 15
  obtain ⟨t1, _⟩ := idx_top hT
  unfold m_X1_finestWith
  rw [show (1 : Int32) = nI 1 from rfl, pk_sub t1]
  refine lp_down (fun k => tg ((idx tv n 15).getD k 0) x y) ((idx tv n 15).length - 1) (by omega) rfl (fun k hk => ?_) _ 1000 (Nat.le_refl _) (by omega)
  show m_X1_finestWith_s7 (nI (idx tv n 15).length) p (nI x) (nI y) (nI (k + 1)) = _
  have hk1 : k + 1 < (idx tv n 15).length := by omega
  have mk := (idx_mem (tv := tv) (n := n) 15 _).mp (getD_mem hk1)
  unfold m_X1_finestWith_s7
  rw [if_neg (nI_nle (by omega) (by omega)), part_eq hp hk1 hlen, Option.bind_some, tog_eq mk.1 (by omega) (by omega), Option.bind_some, pk_m1]
  show (if bI (tg ((idx tv n 15).getD (k + 1) 0) x y) = 0 then _ else _) = _
  cases tg ((idx tv n 15).getD (k + 1) 0) x y
  · rw [if_pos (show bI false = 0 from rfl)]; rfl
  · rw [if_neg (show ¬ bI true = 0 by decide)]; rfl
theorem principal9_eq {n : Nat} {tv : Nat → Nat} {v q : Nat → Int32} (hT : okT n tv) (hz : v 20 = nI n) (hq : holdsL q (idx tv n 15) (fun i => nI (rc n i))) {x y : Nat} (hx : x < n) (hy : y < n) : lp (fun z : (Int32 × Int32) => m_X9_principal_s29 v (nI x) (nI y) (nI (idx tv n 15).length, q) z.1 z.2) 1000 (-9, 0) = some (enc (bw (fun k => tg ((idx tv n 15).getD k 0) x y) (fun j k => decide (bk n ((idx tv n 15).getD j 0) < bk n ((idx tv n 15).getD k 0))) (idx tv n 15).length)) := by
  have h4 := hT.2.1
  have hn5 : n < 5 := by omega
  have hlen := idx_len tv n 15
  refine lp_best _ _ _ (by omega) (fun k o hk ho => ?_) (fun o => ?_)
  · show m_X9_principal_s29 v (nI x) (nI y) (nI (idx tv n 15).length, q) (enc o) (nI k) = _
    have mk := (idx_mem (tv := tv) (n := n) 15 _).mp (getD_mem hk)
    unfold m_X9_principal_s29
    dsimp only
    rw [if_neg (nI_ge hk (by omega)), rd_eq rfl (by omega) (by decide), hq k hk, with_eq hn5 mk.1 h4 hx hy, Option.bind_some]
    show (if bI (tg ((idx tv n 15).getD k 0) x y) = 0 then _ else _) = _
    cases ht : tg ((idx tv n 15).getD k 0) x y
    · rw [if_pos (show bI false = 0 from rfl)]
      unfold m_X9_principal_j88 m_X9_principal_j89
      rw [if_pos rfl, nI_1]
      cases o <;> rfl
    · rw [if_neg (show ¬ bI true = 0 by decide)]
      cases o with
      | none =>
        rw [if_pos (show enc none = -9 from rfl)]
        unfold m_X9_principal_j84 m_X9_principal_j89
        rw [if_neg one_ne0, nI_1]
        rfl
      | some j =>
        have hj := ho j rfl
        have mj := (idx_mem (tv := tv) (n := n) 15 _).mp (getD_mem (l := idx tv n 15) (k := j) (by omega))
        rw [if_neg (enc_ne (by omega)), rd_eq rfl (by omega) (by decide), hq k hk, blocks_eq hz h4 mk.1, Option.bind_some, rd_eq (i := enc (some j)) (j := j) rfl (by omega) (by decide), hq j (by omega), blocks_eq hz h4 mj.1, Option.bind_some]
        have hb := (ble5 _ (Nat.lt_succ_of_le (bk_le n hn5 _ mk.1)) _ (Nat.lt_succ_of_le (bk_le n hn5 _ mj.1))).1
        by_cases hc : bk n ((idx tv n 15).getD j 0) < bk n ((idx tv n 15).getD k 0)
        · rw [if_neg (fun z => by have := hb.mp z; omega)]
          unfold m_X9_principal_j84 m_X9_principal_j89
          rw [if_neg one_ne0, nI_1]
          simp only [upB, hc, decide_true, Bool.and_self, if_true]
          rfl
        · rw [if_pos (hb.mpr (by omega))]
          unfold m_X9_principal_j88 m_X9_principal_j89
          rw [if_pos rfl, nI_1]
          simp only [upB, hc, decide_false, Bool.and_false, Bool.false_eq_true, if_false]
  · show m_X9_principal_s29 v (nI x) (nI y) (nI (idx tv n 15).length, q) (enc o) (nI (idx tv n 15).length) = _
    unfold m_X9_principal_s29
    rw [if_pos (nI_le (Nat.le_refl _) (by omega))]
theorem best_is_last {tv : Nat → Nat} {n : Nat} (hT : okT n tv) (Φ : Nat → Bool) (htop : Φ (tp n) = true) (hmt : ∀ i j k, isMt n i j k = true → Φ i = true → Φ j = true → Φ k = true) : enc (bw (fun k => Φ ((idx tv n 15).getD k 0)) (fun j k => decide (bk n ((idx tv n 15).getD j 0) < bk n ((idx tv n 15).getD k 0))) (idx tv n 15).length) = nI (ld (fun k => Φ ((idx tv n 15).getD k 0)) ((idx tv n 15).length - 1)) := by
  obtain ⟨g, g1, g2, g3, g4⟩ := finest hT Φ htop hmt
  rw [g2, (bw_spec (P := fun k => Φ ((idx tv n 15).getD k 0)) (e := (idx tv n 15).length) g3 (fun k hk hp hne => by
    have := g4 k hk hp hne
    exact ⟨decide_eq_true this, decide_eq_false (by omega)⟩) (idx tv n 15).length (Nat.le_refl _)) g1]
  rfl
theorem tg_top {n x y : Nat} (hn : n < 5) (h1 : 1 ≤ n) (hx : x < n) (hy : y < n) : tg (tp n) x y = true := by
  obtain ⟨_, _, h0, _⟩ := tp_ok n hn h1
  simp only [tg, h0 x hx, h0 y hy, beq_self_eq_true]
/-! promise 14 -/
theorem agree_principal {n : Nat} {v w : Nat → Int32} {tv : Nat → Nat} (hT : okT n tv) (hv : asT v tv) (hw : asT w tv) (hz : w 20 = nI n) (f0 s0 m0 : Int32) (p0 q0 : Nat → Int32) (x y : Int32) : ∃ r u u', m_X8_principal f0 s0 (nI n) p0 v x y = some (r, u) ∧ m_X9_principal m0 q0 w x y = some (r, u') := by
  have h1 := hT.1
  have h4 := hT.2.1
  unfold m_X8_principal m_X9_principal
  rcases is_eq hz h1 h4 x with ⟨a, ha, rfl, e1, e2⟩ | ⟨e1, e2⟩
  · rw [e1, e2, Option.bind_some, Option.bind_some, if_neg one_ne0, if_neg one_ne0]
    rcases is_eq hz h1 h4 y with ⟨b, hb, rfl, e3, e4⟩ | ⟨e3, e4⟩
    · rw [e3, e4, Option.bind_some, Option.bind_some, if_neg one_ne0, if_neg one_ne0]
      obtain ⟨p, hp, c1⟩ := seekIn_eq hT hv f0 s0 p0
      obtain ⟨q, hq, c2⟩ := lay_eq hT hw hz m0 q0
      rw [c1, c2, Option.bind_some, Option.bind_some]
      dsimp only
      rw [finestWith_eq hT hp ha hb, principal9_eq hT hz hq ha hb, Option.bind_some, Option.bind_some, best_is_last hT (fun i => tg i a b) (tg_top (by omega) h1 ha hb) (fun i j k hm hi hj => by rw [(isMt_iff.mp hm).2 a ha b hb, hi, hj]; rfl)]
      exact ⟨_, _, _, rfl, rfl⟩
    · rw [e3, e4, Option.bind_some, Option.bind_some, if_pos rfl, if_pos rfl]
      exact ⟨_, _, _, rfl, rfl⟩
  · rw [e1, e2, Option.bind_some, Option.bind_some, if_pos rfl, if_pos rfl]
    exact ⟨_, _, _, rfl, rfl⟩
/-! two of them -/
theorem join1_eq {n : Nat} {tv : Nat → Nat} {p : Nat → Int32} (hT : okT n tv) (hp : holdsL p (idx tv n 15) PT) {a b : Nat} (ha : a < (idx tv n 15).length) (hb : b < (idx tv n 15).length) : m_X1_join (nI (idx tv n 15).length) (nI n) p (nI a) (nI b) = some (nI (ld (fun k => fn n ((idx tv n 15).getD a 0) ((idx tv n 15).getD k 0) && fn n ((idx tv n 15).getD b 0) ((idx tv n 15).getD k 0)) ((idx tv n 15).length - 1))) := by
  have h4 := hT.2.1
  have hlen := idx_len tv n 15
  have hin : ∀ k, k < (idx tv n 15).length → inN n ((idx tv n 15).getD k 0) = true := fun k hk => ((idx_mem (tv := tv) (n := n) 15 _).mp (getD_mem hk)).2.1
  obtain ⟨t1, _⟩ := idx_top hT
  unfold m_X1_join
  rw [show (1 : Int32) = nI 1 from rfl, pk_sub t1]
  refine lp_down (fun k => fn n ((idx tv n 15).getD a 0) ((idx tv n 15).getD k 0) && fn n ((idx tv n 15).getD b 0) ((idx tv n 15).getD k 0)) ((idx tv n 15).length - 1) (by omega) rfl (fun k hk => ?_) _ 1000 (Nat.le_refl _) (by omega)
  show m_X1_join_s7 (nI (idx tv n 15).length) (nI n) p (nI a) (nI b) (nI (k + 1)) = _
  have hk1 : k + 1 < (idx tv n 15).length := by omega
  unfold m_X1_join_s7
  rw [if_neg (nI_nle (by omega) (by omega)), finer1_eq h4 hp hlen ha hk1 (hin a ha) (hin _ hk1), Option.bind_some, pk_m1]
  cases h1 : fn n ((idx tv n 15).getD a 0) ((idx tv n 15).getD (k + 1) 0)
  · rw [if_pos (show bI false = 0 from rfl)]; rfl
  · rw [if_neg (show ¬ bI true = 0 by decide), finer1_eq h4 hp hlen hb hk1 (hin b hb) (hin _ hk1), Option.bind_some]
    cases h2 : fn n ((idx tv n 15).getD b 0) ((idx tv n 15).getD (k + 1) 0)
    · rw [if_pos (show bI false = 0 from rfl)]; rfl
    · rw [if_neg (show ¬ bI true = 0 by decide)]; rfl
theorem meet1_eq {n : Nat} {tv : Nat → Nat} {p : Nat → Int32} (hT : okT n tv) (hp : holdsL p (idx tv n 15) PT) {a b g : Nat} (ha : a < (idx tv n 15).length) (hb : b < (idx tv n 15).length) (hg : g < (idx tv n 15).length) (h1 : (fn n ((idx tv n 15).getD g 0) ((idx tv n 15).getD a 0) && fn n ((idx tv n 15).getD g 0) ((idx tv n 15).getD b 0)) = true) (h2 : ∀ k, k < g → (fn n ((idx tv n 15).getD k 0) ((idx tv n 15).getD a 0) && fn n ((idx tv n 15).getD k 0) ((idx tv n 15).getD b 0)) = false) : m_X1_meet (nI (idx tv n 15).length) (nI n) p (nI a) (nI b) = some (nI g) := by
  have h4 := hT.2.1
  have hlen := idx_len tv n 15
  have hin : ∀ k, k < (idx tv n 15).length → inN n ((idx tv n 15).getD k 0) = true := fun k hk => ((idx_mem (tv := tv) (n := n) 15 _).mp (getD_mem hk)).2.1
  have hst : ∀ k, k < (idx tv n 15).length → m_X1_meet_s2 (nI (idx tv n 15).length) (nI n) p (nI a) (nI b) (nI k) = some (if (fn n ((idx tv n 15).getD k 0) ((idx tv n 15).getD a 0) && fn n ((idx tv n 15).getD k 0) ((idx tv n 15).getD b 0)) = true then .inr (.inl (nI k)) else .inl (nI (k + 1))) := by
    intro k hk
    unfold m_X1_meet_s2
    rw [if_neg (nI_ge hk (by omega)), finer1_eq h4 hp hlen hk ha (hin k hk) (hin a ha), Option.bind_some, nI_1]
    cases q1 : fn n ((idx tv n 15).getD k 0) ((idx tv n 15).getD a 0)
    · rw [if_pos (show bI false = 0 from rfl)]; rfl
    · rw [if_neg (show ¬ bI true = 0 by decide), finer1_eq h4 hp hlen hk hb (hin k hk) (hin b hb), Option.bind_some]
      cases q2 : fn n ((idx tv n 15).getD k 0) ((idx tv n 15).getD b 0)
      · rw [if_pos (show bI false = 0 from rfl)]; rfl
      · rw [if_neg (show ¬ bI true = 0 by decide)]; rfl
  unfold m_X1_meet
  rw [lp_seq0 (step := fun q : Int32 => m_X1_meet_s2 (nI (idx tv n 15).length) (nI n) p (nI a) (nI b) q) (r := .inl (nI g)) (fun k => nI k) g (by rfl) (fun k hk => by
    show m_X1_meet_s2 (nI (idx tv n 15).length) (nI n) p (nI a) (nI b) (nI k) = _
    rw [hst k (by omega), h2 k hk]
    rfl) (by
    show m_X1_meet_s2 (nI (idx tv n 15).length) (nI n) p (nI a) (nI b) (nI g) = _
    rw [hst g hg, h1]
    rfl) (by omega)]
  rfl
theorem j82_eq {n : Nat} {tv : Nat → Nat} {v q : Nat → Int32} (hT : okT n tv) (hz : v 20 = nI n) (hq : holdsL q (idx tv n 15) (fun i => nI (rc n i))) (jn : Bool) (b : Bool) {k : Nat} {o : Option Nat} (hk : k < (idx tv n 15).length) (ho : ∀ j, o = some j → j < k) : m_X9_between_j82 q v (bI jn) (enc o) (nI k) (nI (rc n ((idx tv n 15).getD k 0))) (bI b) = some (.inl (enc (upB o k b (fun j => if jn = true then decide (bk n ((idx tv n 15).getD j 0) < bk n ((idx tv n 15).getD k 0)) else decide (bk n ((idx tv n 15).getD k 0) < bk n ((idx tv n 15).getD j 0)))), nI (k + 1))) := by
  have h4 := hT.2.1
  have hn5 : n < 5 := by omega
  have hlen := idx_len tv n 15
  have mk := (idx_mem (tv := tv) (n := n) 15 _).mp (getD_mem hk)
  unfold m_X9_between_j82
  cases o with
  | none =>
    rw [if_pos (show enc none = -9 from rfl)]
    unfold m_X9_between_j113
    rw [nI_1]
    cases b
    · rw [if_pos (show bI false = 0 from rfl)]; rfl
    · rw [if_neg (show ¬ bI true = 0 by decide), if_pos (show enc none = -9 from rfl)]; rfl
  | some j =>
    have hj := ho j rfl
    have mj := (idx_mem (tv := tv) (n := n) 15 _).mp (getD_mem (l := idx tv n 15) (k := j) (by omega))
    rw [if_neg (enc_ne (by omega)), blocks_eq hz h4 mk.1, Option.bind_some, rd_eq (i := enc (some j)) (j := j) rfl (by omega) (by decide), hq j (by omega), blocks_eq hz h4 mj.1, Option.bind_some]
    unfold m_X9_between_j113
    rw [nI_1]
    have hb := ble5 _ (Nat.lt_succ_of_le (bk_le n hn5 _ mk.1)) _ (Nat.lt_succ_of_le (bk_le n hn5 _ mj.1))
    cases b
    · rw [if_pos (show bI false = 0 from rfl)]; rfl
    · rw [if_neg (show ¬ bI true = 0 by decide), if_neg (enc_ne (by omega))]
      cases jn
      · rw [if_pos (show bI false = 0 from rfl)]
        by_cases hc : bk n ((idx tv n 15).getD k 0) < bk n ((idx tv n 15).getD j 0)
        · rw [if_neg (fun z => by have := hb.2.2.mp z; omega)]
          simp only [upB, hc, decide_true, Bool.and_self, if_true, Bool.false_eq_true, if_false]
          rfl
        · rw [if_pos (hb.2.2.mpr (by omega))]
          simp only [upB, hc, decide_false, Bool.and_false, Bool.false_eq_true, if_false]
      · rw [if_neg (show ¬ bI true = 0 by decide)]
        by_cases hc : bk n ((idx tv n 15).getD j 0) < bk n ((idx tv n 15).getD k 0)
        · rw [if_neg (fun z => by have := hb.2.1.mp z; omega)]
          simp only [upB, hc, decide_true, Bool.and_self, if_true]
          rfl
        · rw [if_pos (hb.2.1.mpr (by omega))]
          simp only [upB, hc, decide_false, Bool.and_false, Bool.false_eq_true, if_false, if_true]
def fits (n : Nat) (l : List Nat) (jn : Bool) (a b k : Nat) : Bool := if jn = true then fn n (l.getD a 0) (l.getD k 0) && fn n (l.getD b 0) (l.getD k 0) else fn n (l.getD k 0) (l.getD a 0) && fn n (l.getD k 0) (l.getD b 0)
theorem between_eq {n : Nat} {tv : Nat → Nat} {v q : Nat → Int32} (hT : okT n tv) (hz : v 20 = nI n) (hq : holdsL q (idx tv n 15) (fun i => nI (rc n i))) (jn : Bool) {a b : Nat} (ha : a < (idx tv n 15).length) (hb : b < (idx tv n 15).length) : m_X9_between (nI (idx tv n 15).length) q v (nI (rc n ((idx tv n 15).getD a 0))) (nI (rc n ((idx tv n 15).getD b 0))) (bI jn) = some (enc (bw (fits n (idx tv n 15) jn a b) (fun j k => if jn = true then decide (bk n ((idx tv n 15).getD j 0) < bk n ((idx tv n 15).getD k 0)) else decide (bk n ((idx tv n 15).getD k 0) < bk n ((idx tv n 15).getD j 0))) (idx tv n 15).length)) := by
  have h4 := hT.2.1
  have hlen := idx_len tv n 15
  have hlt : ∀ k, k < (idx tv n 15).length → (idx tv n 15).getD k 0 < 15 := fun k hk => ((idx_mem (tv := tv) (n := n) 15 _).mp (getD_mem hk)).1
  unfold m_X9_between
  refine bind_eq (lp_best (fits n (idx tv n 15) jn a b) _ _ (by omega) (fun k o hk ho => ?_) (fun o => ?_))
  · show m_X9_between_s7 (nI (idx tv n 15).length) q v (nI (rc n ((idx tv n 15).getD a 0))) (nI (rc n ((idx tv n 15).getD b 0))) (bI jn) (enc o) (nI k) = _
    unfold m_X9_between_s7 m_X9_between_j81 m_X9_between_j53
    rw [if_neg (nI_ge hk (by omega)), rd_eq rfl (by omega) (by decide), hq k hk]
    have jb := fun b => j82_eq hT hz hq jn b hk ho
    have j0 := jb false
    have j1 := jb true
    rw [show bI false = 0 from rfl] at j0
    rw [show bI true = 1 from rfl] at j1
    cases jn
    · rw [if_pos (show bI false = 0 from rfl), finer9_eq hz h4 (hlt k hk) (hlt a ha), Option.bind_some, finer9_eq hz h4 (hlt k hk) (hlt b hb), Option.bind_some, j0, j1]
      unfold fits
      cases q1 : fn n ((idx tv n 15).getD k 0) ((idx tv n 15).getD a 0)
      · rw [if_pos (show bI false = 0 from rfl)]; rfl
      · rw [if_neg (show ¬ bI true = 0 by decide)]
        cases q2 : fn n ((idx tv n 15).getD k 0) ((idx tv n 15).getD b 0)
        · rw [if_pos (show bI false = 0 from rfl)]; rfl
        · rw [if_neg (show ¬ bI true = 0 by decide)]; rfl
    · rw [if_neg (show ¬ bI true = 0 by decide), finer9_eq hz h4 (hlt a ha) (hlt k hk), Option.bind_some, finer9_eq hz h4 (hlt b hb) (hlt k hk), Option.bind_some, j0, j1]
      unfold fits
      cases q1 : fn n ((idx tv n 15).getD a 0) ((idx tv n 15).getD k 0)
      · rw [if_pos (show bI false = 0 from rfl)]; rfl
      · rw [if_neg (show ¬ bI true = 0 by decide)]
        cases q2 : fn n ((idx tv n 15).getD b 0) ((idx tv n 15).getD k 0)
        · rw [if_pos (show bI false = 0 from rfl)]; rfl
        · rw [if_neg (show ¬ bI true = 0 by decide)]; rfl
  · show m_X9_between_s7 (nI (idx tv n 15).length) q v (nI (rc n ((idx tv n 15).getD a 0))) (nI (rc n ((idx tv n 15).getD b 0))) (bI jn) (enc o) (nI (idx tv n 15).length) = _
    unfold m_X9_between_s7
    rw [if_pos (nI_le (Nat.le_refl _) (by omega))]
theorem there_in {m : Nat} (h1 : 1 ≤ m) (hm : m ≤ 15) (x : Int32) : (∃ k, k < m ∧ x = nI k ∧ m_X1_isThere (nI m) x = some 1 ∧ m_X9_in x 0 (nI m - 1) = some 1) ∨ (m_X1_isThere (nI m) x = some 0 ∧ m_X9_in x 0 (nI m - 1) = some 0) := by
  rw [in_eq, show (1 : Int32) = nI 1 from rfl, pk_sub h1]
  by_cases h0 : x < 0
  · right
    refine ⟨?_, by rw [if_pos h0]⟩
    unfold m_X1_isThere
    rw [if_pos h0]
  · obtain ⟨k, hk, rfl⟩ := nI_of h0
    rw [if_neg h0]
    by_cases hc : k < m
    · left
      exact ⟨k, hc, rfl, there_eq hc hm, by rw [if_neg (nI_nlt (by omega) (by omega))]⟩
    · right
      exact ⟨there_no hc hk, by rw [if_pos (nI_lt (by omega) hk)]⟩
theorem fn_mt {n i j k a : Nat} (hk : isMt n i j k = true) (h1 : fn n a i = true) (h2 : fn n a j = true) : fn n a k = true := by
  rw [fn_iff] at h1 h2 ⊢
  intro x hx y hy e
  rw [(isMt_iff.mp hk).2 x hx y hy, h1 x hx y hy e, h2 x hx y hy e]
  rfl
theorem fn_top {n a : Nat} (hn : n < 5) (h1 : 1 ≤ n) : fn n a (tp n) = true := fn_iff.mpr (fun x hx y hy _ => tg_top hn h1 hx hy)
theorem oneIf_eq (b : Int32) : m_X8_oneIf b = some (if b = 0 then 0 else 1) := by
  unfold m_X8_oneIf
  split <;> rfl
/-! promise 15 -/
theorem agree_pair {n : Nat} {v w : Nat → Int32} {tv : Nat → Nat} (hT : okT n tv) (hv : asT v tv) (hw : asT w tv) (hz : w 20 = nI n) (f0 s0 m0 : Int32) (p0 q0 : Nat → Int32) (x y z : Int32) : ∃ r u u', m_X8_pair f0 s0 (nI n) p0 v x y z = some (r, u) ∧ m_X9_pair m0 q0 w x y z = some (r, u') := by
  have h1 := hT.1
  have h4 := hT.2.1
  have hn5 : n < 5 := by omega
  have hlen := idx_len tv n 15
  obtain ⟨t1, t2⟩ := idx_top hT
  obtain ⟨p, hp, c1⟩ := seekIn_eq hT hv f0 s0 p0
  obtain ⟨q, hq, c2⟩ := lay_eq hT hw hz m0 q0
  have hin : ∀ k, k < (idx tv n 15).length → inN n ((idx tv n 15).getD k 0) = true := fun k hk => ((idx_mem (tv := tv) (n := n) 15 _).mp (getD_mem hk)).2.1
  have hal : ∀ k, k < (idx tv n 15).length → along9 tv n ((idx tv n 15).getD k 0) = true := fun k hk => ((idx_mem (tv := tv) (n := n) 15 _).mp (getD_mem hk)).2.2
  unfold m_X8_pair m_X9_pair
  rw [c1, c2, Option.bind_some, Option.bind_some]
  dsimp only
  rcases there_in t1 hlen x with ⟨a, ha, rfl, a1, a2⟩ | ⟨a1, a2⟩
  · rw [a1, a2, Option.bind_some, Option.bind_some, if_neg one_ne0, if_neg one_ne0]
    rcases there_in t1 hlen y with ⟨b, hb, rfl, b1, b2⟩ | ⟨b1, b2⟩
    · rw [b1, b2, Option.bind_some, Option.bind_some, if_neg one_ne0, if_neg one_ne0, in_eq, Option.bind_some]
      by_cases z0 : z < 0
      · rw [if_pos z0, if_pos z0, if_pos rfl]
        exact ⟨_, _, _, rfl, rfl⟩
      · obtain ⟨c, hc, rfl⟩ := nI_of z0
        rw [if_neg z0, if_neg z0, show (3 : Int32) = nI 3 from rfl]
        by_cases c3 : c ≤ 3
        · rw [if_pos (nI_le c3 (by decide)), if_neg (nI_nlt c3 (by decide)), if_neg one_ne0, rd_eq rfl (by omega) (by decide), rd_eq rfl (by omega) (by decide), hq a ha, hq b hb]
          rcases (show c = 0 ∨ c = 1 ∨ c = 2 ∨ c = 3 by omega) with rfl | rfl | rfl | rfl
          · rw [if_pos (show nI 0 = 0 from rfl), if_pos (show nI 0 = 0 from rfl), if_neg (show ¬ (2 : Int32) ≤ nI 0 by decide), join1_eq hT hp ha hb, Option.bind_some]
            unfold m_X9_pair_j79
            have e := between_eq hT hz hq true ha hb
            rw [show bI true = 1 from rfl] at e
            rw [e, Option.bind_some]
            have e2 := best_is_last hT (fun k => fn n ((idx tv n 15).getD a 0) k && fn n ((idx tv n 15).getD b 0) k) (by rw [fn_top hn5 h1, fn_top hn5 h1]; rfl) (fun i j k hm hi hj => by
              simp only [Bool.and_eq_true] at hi hj ⊢
              exact ⟨fn_mt hm hi.1 hj.1, fn_mt hm hi.2 hj.2⟩)
            rw [show enc (bw (fits n (idx tv n 15) true a b) (fun j k => if true = true then decide (bk n ((idx tv n 15).getD j 0) < bk n ((idx tv n 15).getD k 0)) else decide (bk n ((idx tv n 15).getD k 0) < bk n ((idx tv n 15).getD j 0))) (idx tv n 15).length) = _ from e2]
            exact ⟨_, _, _, rfl, rfl⟩
          · rw [if_neg (show ¬ nI 1 = 0 by decide), if_pos (show nI 1 = 1 from rfl), if_neg (show ¬ (2 : Int32) ≤ nI 1 by decide), if_neg (show ¬ nI 1 = 0 by decide)]
            have hM := mt_ok n hn5 h1 _ (inN_lt (hin a ha)) (hin a ha) _ (inN_lt (hin b hb)) (hin b hb)
            have hMi := isMt_iff.mp hM
            obtain ⟨g, hg, eg⟩ := mem_getD ((idx_mem (tv := tv) (n := n) 15 _).mpr ⟨inN_lt hMi.1, hMi.1, along_mt hT hM (hal a ha) (hal b hb)⟩)
            have fg : (fn n ((idx tv n 15).getD g 0) ((idx tv n 15).getD a 0) && fn n ((idx tv n 15).getD g 0) ((idx tv n 15).getD b 0)) = true := by
              rw [eg, Bool.and_eq_true]
              refine ⟨fn_iff.mpr (fun x hx y hy e => ?_), fn_iff.mpr (fun x hx y hy e => ?_)⟩
              · rw [hMi.2 x hx y hy, Bool.and_eq_true] at e; exact e.1
              · rw [hMi.2 x hx y hy, Bool.and_eq_true] at e; exact e.2
            have fk : ∀ k, k < (idx tv n 15).length → (fn n ((idx tv n 15).getD k 0) ((idx tv n 15).getD a 0) && fn n ((idx tv n 15).getD k 0) ((idx tv n 15).getD b 0)) = true → k ≠ g → g < k ∧ bk n ((idx tv n 15).getD g 0) < bk n ((idx tv n 15).getD k 0) := by
              intro k hk hf hne
              rw [Bool.and_eq_true] at hf
              have f1 := fn_mt hM hf.1 hf.2
              rw [← eg] at f1
              have hd : (idx tv n 15).getD k 0 ≠ (idx tv n 15).getD g 0 := by
                intro e
                rcases Nat.lt_trichotomy k g with s | s | s
                · have := getD_lt (idx_sorted (tv := tv) (n := n) 15) s hg; omega
                · exact hne s
                · have := getD_lt (idx_sorted (tv := tv) (n := n) 15) s hk; omega
              have f2 := fn_lt n hn5 h1 _ (inN_lt (hin k hk)) (hin k hk) _ (inN_lt (hin g hg)) (hin g hg) f1 hd
              refine ⟨?_, f2.2⟩
              rcases Nat.lt_trichotomy k g with s | s | s
              · have := getD_lt (idx_sorted (tv := tv) (n := n) 15) s hg; omega
              · exact absurd s hne
              · exact s
            rw [meet1_eq hT hp ha hb hg fg (fun k hk => by
              cases q1 : (fn n ((idx tv n 15).getD k 0) ((idx tv n 15).getD a 0) && fn n ((idx tv n 15).getD k 0) ((idx tv n 15).getD b 0))
              · rfl
              · have := (fk k (by omega) q1 (by omega)).1; omega), Option.bind_some]
            unfold m_X9_pair_j79
            have e := between_eq hT hz hq false ha hb
            rw [show bI false = 0 from rfl] at e
            rw [e, Option.bind_some]
            have e2 : bw (fits n (idx tv n 15) false a b) (fun j k => if false = true then decide (bk n ((idx tv n 15).getD j 0) < bk n ((idx tv n 15).getD k 0)) else decide (bk n ((idx tv n 15).getD k 0) < bk n ((idx tv n 15).getD j 0))) (idx tv n 15).length = some g := by
              refine (bw_spec (e := (idx tv n 15).length) (show fits n (idx tv n 15) false a b g = true from fg) (fun k hk hpk hne => ?_) (idx tv n 15).length (Nat.le_refl _)) hg
              have f := (fk k hk hpk hne).2
              simp only [Bool.false_eq_true, if_false]
              exact ⟨decide_eq_true f, decide_eq_false (by omega)⟩
            rw [e2]
            exact ⟨_, _, _, rfl, rfl⟩
          · rw [if_neg (show ¬ nI 2 = 0 by decide), if_neg (show ¬ nI 2 = 1 by decide), if_pos (show nI 2 = 2 from rfl), if_pos (show (2 : Int32) ≤ nI 2 by decide), if_pos (show nI 2 = 2 from rfl), perm1_eq h4 hp hlen ha hb (hin a ha) (hin b hb), perm9_eq hz h4 (hin a ha) (hin b hb), Option.bind_some, Option.bind_some, oneIf_eq, Option.bind_some]
            split
            · exact ⟨_, _, _, rfl, rfl⟩
            · exact ⟨_, _, _, rfl, rfl⟩
          · rw [if_neg (show ¬ nI 3 = 0 by decide), if_neg (show ¬ nI 3 = 1 by decide), if_neg (show ¬ nI 3 = 2 by decide), if_pos (show (2 : Int32) ≤ nI 3 by decide), if_neg (show ¬ nI 3 = 2 by decide), finer1_eq h4 hp hlen ha hb (hin a ha) (hin b hb), finer9_eq hz h4 (inN_lt (hin a ha)) (inN_lt (hin b hb)), Option.bind_some, Option.bind_some, oneIf_eq, Option.bind_some]
            split
            · exact ⟨_, _, _, rfl, rfl⟩
            · exact ⟨_, _, _, rfl, rfl⟩
        · rw [if_neg (nI_ge (by omega) hc), if_pos (nI_lt (by omega) hc), if_pos rfl]
          exact ⟨_, _, _, rfl, rfl⟩
    · rw [b1, b2, Option.bind_some, Option.bind_some, if_pos rfl, if_pos rfl]
      split
      · exact ⟨_, _, _, rfl, rfl⟩
      · split
        · exact ⟨_, _, _, rfl, rfl⟩
        · exact ⟨_, _, _, rfl, rfl⟩
  · rw [a1, a2, Option.bind_some, Option.bind_some, if_pos rfl, if_pos rfl]
    split
    · exact ⟨_, _, _, rfl, rfl⟩
    · split
      · exact ⟨_, _, _, rfl, rfl⟩
      · exact ⟨_, _, _, rfl, rfl⟩
