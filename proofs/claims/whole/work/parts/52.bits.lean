/-! rows of values as bits -/
def b32 (x : Int32) (i : Nat) : Bool := x.toBitVec.getLsbD i
def b64 (x : Int64) (i : Nat) : Bool := x.toBitVec.getLsbD i
theorem b64_ext {x y : Int64} (h : ∀ i, i < 64 → b64 x i = b64 y i) : x = y := Int64.toBitVec_inj.mp (BitVec.eq_of_getLsbD_eq h)
theorem b32_ext {x y : Int32} (h : ∀ i, i < 32 → b32 x i = b32 y i) : x = y := Int32.toBitVec_inj.mp (BitVec.eq_of_getLsbD_eq h)
theorem b64_or (x y : Int64) (i : Nat) : b64 (x ||| y) i = (b64 x i || b64 y i) := by
  unfold b64
  rw [Int64.toBitVec_or, BitVec.getLsbD_or]
theorem b64_and (x y : Int64) (i : Nat) : b64 (x &&& y) i = (b64 x i && b64 y i) := by
  unfold b64
  rw [Int64.toBitVec_and, BitVec.getLsbD_and]
theorem b32_or (x y : Int32) (i : Nat) : b32 (x ||| y) i = (b32 x i || b32 y i) := by
  unfold b32
  rw [Int32.toBitVec_or, BitVec.getLsbD_or]
theorem b32_and (x y : Int32) (i : Nat) : b32 (x &&& y) i = (b32 x i && b32 y i) := by
  unfold b32
  rw [Int32.toBitVec_and, BitVec.getLsbD_and]
theorem b32_not (x : Int32) {i : Nat} (h : i < 32) : b32 (x ^^^ (-1)) i = !b32 x i := by
  unfold b32
  rw [Int32.toBitVec_xor, BitVec.getLsbD_xor, show (-1 : Int32).toBitVec = BitVec.allOnes 32 by decide, BitVec.getLsbD_allOnes, decide_eq_true h, Bool.xor_true]
theorem b32_nI (k i : Nat) : b32 (nI k) i = (decide (i < 32) && k.testBit i) := BitVec.getLsbD_ofNat 32 k i
theorem b64_lN (k i : Nat) : b64 (lN k) i = (decide (i < 64) && k.testBit i) := BitVec.getLsbD_ofNat 64 k i
theorem b32_0 (i : Nat) : b32 0 i = false := BitVec.getLsbD_zero
theorem b64_0 (i : Nat) : b64 0 i = false := BitVec.getLsbD_zero
theorem b32_lo (x : Int64) {i : Nat} (h : i < 32) : b32 x.toInt32 i = b64 x i := by
  unfold b32 b64
  rw [Int64.toBitVec_toInt32, BitVec.getLsbD_signExtend, decide_eq_true h, if_pos (by omega), Bool.true_and]
theorem sh32 : (((32 : Int32).toInt64.toUInt64 &&& Int64.toUInt64 63).toBitVec % 64#64) = 32#64 := by decide
theorem b32_hi (x : Int64) {i : Nat} (h : i < 32) : b32 (((x.toUInt64 >>> ((32 : Int32).toInt64.toUInt64 &&& Int64.toUInt64 63)).toInt64).toInt32) i = b64 x (32 + i) := by
  rw [b32_lo _ h]
  unfold b64
  have e : ((x.toUInt64 >>> ((32 : Int32).toInt64.toUInt64 &&& Int64.toUInt64 63)).toInt64).toBitVec = x.toBitVec >>> (((32 : Int32).toInt64.toUInt64 &&& Int64.toUInt64 63).toBitVec % 64#64) := rfl
  rw [e, sh32]
  show (x.toBitVec >>> (32#64).toNat).getLsbD i = _
  rw [BitVec.getLsbD_ushiftRight]
  rfl
theorem b64_shl (x s : Int64) {k : Nat} (hs : (s.toBitVec.smod 64#64).toNat = k) {i : Nat} (h : i < 64) : b64 (x <<< s) i = (!decide (i < k) && b64 x (i - k)) := by
  unfold b64
  have e : (x <<< s).toBitVec = x.toBitVec <<< (s.toBitVec.smod 64#64) := rfl
  rw [e, BitVec.getLsbD_shiftLeft', hs, decide_eq_true h, Bool.true_and]
theorem b64_shr (x s : Int64) {k : Nat} (hs : (s.toBitVec.smod 64#64).toNat = k) {i : Nat} (h : k + i < 64) : b64 (x >>> s) i = b64 x (k + i) := by
  unfold b64
  have e : (x >>> s).toBitVec = x.toBitVec.sshiftRight' (s.toBitVec.smod 64#64) := rfl
  rw [e, BitVec.getLsbD_sshiftRight', hs, if_pos h, decide_eq_false (by omega)]
  rfl
theorem b64_ext32 (x : Int32) {i : Nat} (h : i < 64) : b64 x.toInt64 i = (if i < 32 then b32 x i else b32 x 31) := by
  unfold b64 b32
  rw [Int32.toBitVec_toInt64, BitVec.getLsbD_signExtend, decide_eq_true h, Bool.true_and]
  rfl
theorem s32l : (((32 : Int32).toInt64 &&& 63).toBitVec.smod 64#64).toNat = 32 := by decide
theorem b64_join {x0 x1 : Int32} (h0 : b32 x0 31 = false) {i : Nat} (h : i < 64) : b64 ((x1.toInt64 <<< ((32 : Int32).toInt64 &&& 63)) ||| x0.toInt64) i = (if i < 32 then b32 x0 i else b32 x1 (i - 32)) := by
  rw [b64_or, b64_shl _ _ s32l h, b64_ext32 x0 h]
  by_cases e : i < 32
  · rw [if_pos e, if_pos e, decide_eq_true e]
    rfl
  · rw [if_neg e, if_neg e, h0, Bool.or_false, decide_eq_false e, b64_ext32 x1 (by omega), if_pos (by omega)]
    rfl
/-! rows of the class -/
def isC (W : Nat) (c : Nat → Nat) (x : Int64) : Prop := ∀ i, i < 64 → b64 x i = if i < 32 then (decide (i < W) && (c i).testBit 0) else (decide (i - 32 < W) && (c (i - 32)).testBit 1)
def isM (W : Nat) (P : Nat → Bool) (y : Int32) : Prop := ∀ i, i < 32 → b32 y i = (decide (i < W) && P i)
theorem isC_lo {W : Nat} {c : Nat → Nat} {x : Int64} (h : isC W c x) : isM W (fun i => (c i).testBit 0) x.toInt32 := by
  intro i hi
  rw [b32_lo _ hi, h i (by omega), if_pos hi]
theorem isC_hi {W : Nat} {c : Nat → Nat} {x : Int64} (h : isC W c x) : isM W (fun i => (c i).testBit 1) (((x.toUInt64 >>> ((32 : Int32).toInt64.toUInt64 &&& Int64.toUInt64 63)).toInt64).toInt32) := by
  intro i hi
  rw [b32_hi _ hi, h (32 + i) (by omega), if_neg (by omega), show 32 + i - 32 = i by omega]
theorem isC_join {W : Nat} (hW : W ≤ 27) {c : Nat → Nat} {x0 x1 : Int32} (h0 : isM W (fun i => (c i).testBit 0) x0) (h1 : isM W (fun i => (c i).testBit 1) x1) : isC W c ((x1.toInt64 <<< ((32 : Int32).toInt64 &&& 63)) ||| x0.toInt64) := by
  intro i hi
  rw [b64_join (by rw [h0 31 (by decide), decide_eq_false (by omega)]; rfl) hi]
  by_cases e : i < 32
  · rw [if_pos e, if_pos e, h0 i e]
  · rw [if_neg e, if_neg e, h1 (i - 32) (by omega)]
theorem isC_uniq {W : Nat} {c : Nat → Nat} {x y : Int64} (hx : isC W c x) (hy : isC W c y) : x = y := b64_ext (fun i hi => by rw [hx i hi, hy i hi])
theorem bits4 : ∀ a, a < 4 → ∀ b, b < 4 → (a.testBit 0 = b.testBit 0 ∧ a.testBit 1 = b.testBit 1 ↔ a = b) := by decide
theorem isC_inj {W : Nat} (hW : W ≤ 27) {c d : Nat → Nat} {x : Int64} (hx : isC W c x) (hy : isC W d x) (hc : ∀ i, i < W → c i < 4) (hd : ∀ i, i < W → d i < 4) : ∀ i, i < W → c i = d i := by
  intro i hi
  refine (bits4 _ (hc i hi) _ (hd i hi)).mp ⟨?_, ?_⟩
  · have := hx i (by omega)
    rw [hy i (by omega), if_pos (by omega), if_pos (by omega), decide_eq_true hi] at this
    exact this.symm
  · have := hx (32 + i) (by omega)
    rw [hy (32 + i) (by omega), if_neg (by omega), if_neg (by omega), show 32 + i - 32 = i by omega, decide_eq_true hi] at this
    exact this.symm
theorem low1 : ∀ k, k < 4 → (nI k &&& 1 = 0 ↔ k.testBit 0 = false) := by decide
theorem low2 : ∀ k, k < 4 → (nI k &&& 2 = 0 ↔ k.testBit 1 = false) := by decide
theorem mask_eq : ∀ W, W < 31 → (1 <<< (nI W &&& 31)) - 1 = nI (2 ^ W - 1) := by decide +kernel
theorem where_eq {W k : Nat} (hW : W ≤ 27) {c : Nat → Nat} {x : Int64} (hx : isC W c x) (hc : ∀ i, i < W → c i < 4) (hk : k < 4) : ∃ y, m_X7_whereIs (nI W) x (nI k) = some y ∧ isM W (fun i => c i == k) y := by
  have hl := isC_lo hx
  have hh := isC_hi hx
  have fin : ∀ a b : Int32, (∀ i, i < W → (b32 a i && b32 b i) = (c i == k)) → ∃ y, m_X7_whereIs_j41 (nI W) a b = some y ∧ isM W (fun i => c i == k) y := by
    intro a b hab
    refine ⟨_, rfl, fun i hi => ?_⟩
    rw [b32_and, b32_and, mask_eq W (by omega), b32_nI, Nat.testBit_two_pow_sub_one, decide_eq_true hi, Bool.true_and]
    by_cases e : i < W
    · rw [hab i e, decide_eq_true e, Bool.and_true, Bool.true_and]
    · rw [decide_eq_false e, Bool.and_false, Bool.false_and]
  have key : ∀ a, a < 4 → (((if k.testBit 0 = false then !a.testBit 0 else a.testBit 0) && (if k.testBit 1 = false then !a.testBit 1 else a.testBit 1)) = (a == k)) := by
    intro a ha
    have all : ∀ k, k < 4 → ∀ a, a < 4 → (((if k.testBit 0 = false then !a.testBit 0 else a.testBit 0) && (if k.testBit 1 = false then !a.testBit 1 else a.testBit 1)) = (a == k)) := by decide
    exact all k hk a ha
  have bl : ∀ i, i < W → b32 x.toInt32 i = (c i).testBit 0 := fun i hi => by rw [hl i (by omega), decide_eq_true hi, Bool.true_and]
  have bh : ∀ i, i < W → b32 (((x.toUInt64 >>> ((32 : Int32).toInt64.toUInt64 &&& Int64.toUInt64 63)).toInt64).toInt32) i = (c i).testBit 1 := fun i hi => by rw [hh i (by omega), decide_eq_true hi, Bool.true_and]
  unfold m_X7_whereIs nm m_X7_whereIs_j26
  dsimp only
  by_cases k0 : k.testBit 0 = false
  · rw [if_pos ((low1 k hk).mpr k0)]
    by_cases k1 : k.testBit 1 = false
    · rw [if_pos ((low2 k hk).mpr k1)]
      refine fin _ _ (fun i hi => ?_)
      have := key (c i) (hc i hi)
      rw [if_pos k0, if_pos k1] at this
      rw [b32_not _ (by omega), b32_not _ (by omega), bl i hi, bh i hi]
      exact this
    · rw [if_neg (fun q => k1 ((low2 k hk).mp q))]
      refine fin _ _ (fun i hi => ?_)
      have := key (c i) (hc i hi)
      rw [if_pos k0, if_neg k1] at this
      rw [b32_not _ (by omega), bl i hi, bh i hi]
      exact this
  · rw [if_neg (fun q => k0 ((low1 k hk).mp q))]
    by_cases k1 : k.testBit 1 = false
    · rw [if_pos ((low2 k hk).mpr k1)]
      refine fin _ _ (fun i hi => ?_)
      have := key (c i) (hc i hi)
      rw [if_neg k0, if_pos k1] at this
      rw [b32_not _ (by omega), bl i hi, bh i hi]
      exact this
    · rw [if_neg (fun q => k1 ((low2 k hk).mp q))]
      refine fin _ _ (fun i hi => ?_)
      have := key (c i) (hc i hi)
      rw [if_neg k0, if_neg k1] at this
      rw [bl i hi, bh i hi]
      exact this
theorem isM_congr {W : Nat} {P Q : Nat → Bool} {y : Int32} (h : isM W P y) (e : ∀ i, i < W → P i = Q i) : isM W Q y := by
  intro i hi
  rw [h i hi]
  by_cases q : i < W
  · rw [e i q]
  · rw [decide_eq_false q, Bool.false_and, Bool.false_and]
theorem isM_or {W : Nat} {P Q : Nat → Bool} {y z : Int32} (h : isM W P y) (g : isM W Q z) : isM W (fun i => P i || Q i) (y ||| z) := by
  intro i hi
  rw [b32_or, h i hi, g i hi, Bool.and_or_distrib_left]
theorem isM_0 {W : Nat} : isM W (fun _ => false) 0 := by
  intro i hi
  rw [b32_0, Bool.and_false]
/-- one value more, or not -/
theorem isM_add {W x : Nat} {c g : Nat → Nat} {bit : Nat} {m wh : Int32} (hm : isM W (fun i => decide (c i < x) && (g (c i)).testBit bit) m) (hw : isM W (fun i => c i == x) wh) : isM W (fun i => decide (c i < x + 1) && (g (c i)).testBit bit) (m ||| (if (g x).testBit bit = false then 0 else wh)) := by
  by_cases e : (g x).testBit bit = false
  · rw [if_pos e]
    refine isM_congr (isM_or hm isM_0) (fun i _ => ?_)
    rw [Bool.or_false]
    by_cases q : c i = x
    · rw [q, e, Bool.and_false, Bool.and_false]
    · by_cases l : c i < x
      · rw [decide_eq_true l, decide_eq_true (by omega)]
      · rw [decide_eq_false l, decide_eq_false (by omega)]
  · rw [if_neg e]
    rw [Bool.not_eq_false] at e
    refine isM_congr (isM_or hm hw) (fun i _ => ?_)
    by_cases q : c i = x
    · rw [q, e, decide_eq_true (show x < x + 1 by omega), beq_self_eq_true, Bool.or_true]
      rfl
    · rw [beq_eq_false_iff_ne.mpr q, Bool.or_false]
      by_cases l : c i < x
      · rw [decide_eq_true l, decide_eq_true (by omega)]
      · rw [decide_eq_false l, decide_eq_false (by omega)]
/-! f and g of rows, by the class -/
theorem isM_start {W : Nat} {c g : Nat → Nat} {bit : Nat} : isM W (fun i => decide (c i < 0) && (g (c i)).testBit bit) 0 := isM_congr isM_0 (fun i _ => by rw [decide_eq_false (by omega), Bool.false_and])
theorem lay_in {W n y : Nat} {v : Nat → Int32} {tv : Nat → Nat} (hT : okT n tv) (hv : asT v tv) (hW : W ≤ 27) (hy : y < 4) {c : Nat → Nat} {x : Int64} (hx : isC W c x) (hc : ∀ i, i < W → c i < n) : ∃ z1 z2, lp (fun q : (Int32 × Int32 × Int32) => m_X7_layBehind_s18 (nI W) (nI n) v x (nI y) q.1 q.2.1 q.2.2) 1000 (0, 0, 0) = some (z1, z2) ∧ isM W (fun i => (tv (4 * c i + y)).testBit 0) z1 ∧ isM W (fun i => (tv (4 * c i + y)).testBit 1) z2 := by
  have h4 := hT.2.1
  have hc4 : ∀ i, i < W → c i < 4 := fun i hi => Nat.lt_of_lt_of_le (hc i hi) h4
  have H := lp_inv (step := fun q : (Int32 × Int32 × Int32) => m_X7_layBehind_s18 (nI W) (nI n) v x (nI y) q.1 q.2.1 q.2.2)
    (fun s => ∃ k, k ≤ n ∧ s.2.2 = nI k ∧ isM W (fun i => decide (c i < k) && (tv (4 * c i + y)).testBit 0) s.1 ∧ isM W (fun i => decide (c i < k) && (tv (4 * c i + y)).testBit 1) s.2.1) (fun s => n - s.2.2.toNatClampNeg)
    (fun r => isM W (fun i => (tv (4 * c i + y)).testBit 0) r.1 ∧ isM W (fun i => (tv (4 * c i + y)).testBit 1) r.2) (fun s hs => ?_) 1000 (0, 0, 0) ⟨0, by omega, rfl, isM_start (g := fun z => tv (4 * z + y)), isM_start (g := fun z => tv (4 * z + y))⟩ (by show n - _ < 1000; omega)
  · obtain ⟨r, e, h1, h2⟩ := H
    exact ⟨r.1, r.2, e, h1, h2⟩
  · obtain ⟨a, b, s3⟩ := s
    obtain ⟨k, hk, e3, m1, m2⟩ := hs
    dsimp only at e3 m1 m2
    subst e3
    rcases Nat.lt_or_ge k n with hlt | hge
    · left
      obtain ⟨wh, ew, hw⟩ := where_eq hW hx hc4 (show k < 4 by omega)
      have ht4 := hT.2.2.1 (4 * k + y) (by omega)
      have a1 := isM_add (g := fun z => tv (4 * z + y)) (bit := 0) m1 hw
      have a2 := isM_add (g := fun z => tv (4 * z + y)) (bit := 1) m2 hw
      refine ⟨(_, _, nI (k + 1)), ?_, ⟨k + 1, by omega, rfl, a1, a2⟩, ?_⟩
      · show m_X7_layBehind_s18 (nI W) (nI n) v x (nI y) a b (nI k) = _
        unfold m_X7_layBehind_s18 m_X7_layBehind_j57
        rw [if_neg (nI_ge hlt (by omega)), ew, Option.bind_some, two_eq hv (by omega) hy, Option.bind_some, nI_1]
        by_cases q0 : (tv (4 * k + y)).testBit 0 = false
        · rw [if_pos ((low1 _ ht4).mpr q0), Option.bind_some, if_pos q0]
          by_cases q1 : (tv (4 * k + y)).testBit 1 = false
          · rw [if_pos ((low2 _ ht4).mpr q1), if_pos q1]
          · rw [if_neg (fun q => q1 ((low2 _ ht4).mp q)), if_neg q1]
        · rw [if_neg (fun q => q0 ((low1 _ ht4).mp q)), Option.bind_some, if_neg q0]
          by_cases q1 : (tv (4 * k + y)).testBit 1 = false
          · rw [if_pos ((low2 _ ht4).mpr q1), if_pos q1]
          · rw [if_neg (fun q => q1 ((low2 _ ht4).mp q)), if_neg q1]
      · show n - (nI (k + 1)).toNatClampNeg < n - (nI k).toNatClampNeg
        rw [nI_clamp (by omega), nI_clamp (by omega)]
        omega
    · right
      obtain rfl : k = n := by omega
      refine ⟨(a, b), ?_, isM_congr m1 (fun i hi => by rw [decide_eq_true (hc i hi), Bool.true_and]), isM_congr m2 (fun i hi => by rw [decide_eq_true (hc i hi), Bool.true_and])⟩
      show m_X7_layBehind_s18 (nI W) (nI k) v x (nI y) a b (nI k) = _
      unfold m_X7_layBehind_s18
      rw [if_pos (nI_le (Nat.le_refl k) (by omega))]
def layOk (W : Nat) (tv c : Nat → Nat) (e : Nat) (hi lo : Nat → Int32) : Prop := ∀ y, y < e → isM W (fun i => (tv (4 * c i + y)).testBit 0) (lo y) ∧ isM W (fun i => (tv (4 * c i + y)).testBit 1) (hi y)
theorem layBehind_eq {W n : Nat} {v : Nat → Int32} {tv : Nat → Nat} (hT : okT n tv) (hv : asT v tv) (hW : W ≤ 27) {c : Nat → Nat} {x : Int64} (hx : isC W c x) (hc : ∀ i, i < W → c i < n) (hb lb : Nat → Int32) : ∃ hb' lb', m_X7_layBehind (nI W) hb lb (nI n) v x = some (hb', lb') ∧ layOk W tv c 4 hb' lb' := by
  unfold m_X7_layBehind
  have key : ∀ d y N hb lb, y + d = 4 → d < N → layOk W tv c y hb lb → ∃ hb' lb', lp (fun q : (Int32 × (Nat → Int32) × (Nat → Int32)) => m_X7_layBehind_s3 (nI W) (nI n) v x q.1 q.2.1 q.2.2) N (nI y, hb, lb) = some (hb', lb') ∧ layOk W tv c 4 hb' lb' := by
    intro d
    induction d with
    | zero =>
      intro y N hb lb hy hN h
      obtain ⟨N, rfl⟩ : ∃ M, N = M + 1 := ⟨N - 1, by omega⟩
      obtain rfl : y = 4 := by omega
      exact ⟨hb, lb, lp_exit rfl, h⟩
    | succ d ih =>
      intro y N hb lb hy hN h
      obtain ⟨N, rfl⟩ : ∃ M, N = M + 1 := ⟨N - 1, by omega⟩
      obtain ⟨z1, z2, e, g1, g2⟩ := lay_in hT hv hW (show y < 4 by omega) hx hc
      have hst : m_X7_layBehind_s3 (nI W) (nI n) v x (nI y) hb lb = some (.inl (nI (y + 1), upd hb y z2, upd lb y z1)) := by
        unfold m_X7_layBehind_s3
        rw [show (4 : Int32) = nI 4 from rfl, if_neg (nI_ge (by omega) (by decide)), e, Option.bind_some, wrI_eq rfl (by omega) (by decide), wrI_eq rfl (by omega) (by decide), nI_1]
      rw [lp_succ (s := (nI y, hb, lb)) hst]
      refine ih (y + 1) N _ _ (by omega) (by omega) (fun j hj => ?_)
      by_cases q : j = y
      · subst q
        rw [pk_us, pk_us]
        exact ⟨g1, g2⟩
      · rw [pk_un q, pk_un q]
        exact h j (by omega)
  obtain ⟨hb', lb', e, h⟩ := key 4 0 1000 hb lb (by omega) (by omega) (fun y hy => by omega)
  rw [show nI 0 = 0 from rfl] at e
  rw [e, Option.bind_some]
  exact ⟨hb', lb', rfl, h⟩
theorem ofTwo_eq {W n : Nat} {tv : Nat → Nat} (hW : W ≤ 27) {c d : Nat → Nat} {x : Int64} {hb lb : Nat → Int32} (hl : layOk W tv c 4 hb lb) (hx : isC W d x) (hd : ∀ i, i < W → d i < n) (h4 : n ≤ 4) : ∃ r, m_X7_ofTwo hb lb x = some r ∧ isC W (fun i => tv (4 * c i + d i)) r := by
  unfold m_X7_ofTwo nm
  dsimp only
  rw [rd_eq (i := 0) (j := 0) rfl (by decide) (by decide), rd_eq (i := 1) (j := 1) rfl (by decide) (by decide), rd_eq (i := 2) (j := 2) rfl (by decide) (by decide), rd_eq (i := 3) (j := 3) rfl (by decide) (by decide), rd_eq (i := 0) (j := 0) rfl (by decide) (by decide), rd_eq (i := 1) (j := 1) rfl (by decide) (by decide), rd_eq (i := 2) (j := 2) rfl (by decide) (by decide), rd_eq (i := 3) (j := 3) rfl (by decide) (by decide)]
  unfold m_X7_joined
  rw [Option.bind_some]
  refine ⟨_, rfl, isC_join hW ?_ ?_⟩
  · intro i hi
    have lo := isC_lo hx i hi
    have h2 := isC_hi hx i hi
    simp only [b32_or, b32_and, b32_not _ hi, (hl 0 (by decide)).1 i hi, (hl 1 (by decide)).1 i hi, (hl 2 (by decide)).1 i hi, (hl 3 (by decide)).1 i hi, lo, h2]
    by_cases e : i < W
    · have hd4 : d i < 4 := Nat.lt_of_lt_of_le (hd i e) h4
      rw [decide_eq_true e]
      rcases (show d i = 0 ∨ d i = 1 ∨ d i = 2 ∨ d i = 3 by omega) with q | q | q | q <;> rw [q] <;> simp [show Nat.testBit 1 1 = false from rfl, show Nat.testBit 2 1 = true from rfl, show Nat.testBit 3 1 = true from rfl]
    · rw [decide_eq_false e]
      simp
  · intro i hi
    have lo := isC_lo hx i hi
    have h2 := isC_hi hx i hi
    simp only [b32_or, b32_and, b32_not _ hi, (hl 0 (by decide)).2 i hi, (hl 1 (by decide)).2 i hi, (hl 2 (by decide)).2 i hi, (hl 3 (by decide)).2 i hi, lo, h2]
    by_cases e : i < W
    · have hd4 : d i < 4 := Nat.lt_of_lt_of_le (hd i e) h4
      rw [decide_eq_true e]
      rcases (show d i = 0 ∨ d i = 1 ∨ d i = 2 ∨ d i = 3 by omega) with q | q | q | q <;> rw [q] <;> simp [show Nat.testBit 1 1 = false from rfl, show Nat.testBit 2 1 = true from rfl, show Nat.testBit 3 1 = true from rfl]
    · rw [decide_eq_false e]
      simp
theorem ofOne_eq {W n : Nat} {v : Nat → Int32} {tv : Nat → Nat} (hT : okT n tv) (hv : asT v tv) (hW : W ≤ 27) {c : Nat → Nat} {x : Int64} (hx : isC W c x) (hc : ∀ i, i < W → c i < n) : ∃ r, m_X7_ofOne (nI W) (nI n) v x = some r ∧ isC W (fun i => tv (16 + c i)) r := by
  have h4 := hT.2.1
  have hc4 : ∀ i, i < W → c i < 4 := fun i hi => Nat.lt_of_lt_of_le (hc i hi) h4
  have H := lp_inv (step := fun q : (Int32 × Int32 × Int32) => m_X7_ofOne_s9 (nI W) (nI n) v x q.1 q.2.1 q.2.2)
    (fun s => ∃ k, k ≤ n ∧ s.2.2 = nI k ∧ isM W (fun i => decide (c i < k) && (tv (16 + c i)).testBit 0) s.1 ∧ isM W (fun i => decide (c i < k) && (tv (16 + c i)).testBit 1) s.2.1) (fun s => n - s.2.2.toNatClampNeg)
    (fun r => isM W (fun i => (tv (16 + c i)).testBit 0) r.1 ∧ isM W (fun i => (tv (16 + c i)).testBit 1) r.2) (fun s hs => ?_) 1000 (0, 0, 0) ⟨0, by omega, rfl, isM_start (g := fun z => tv (16 + z)), isM_start (g := fun z => tv (16 + z))⟩ (by show n - _ < 1000; omega)
  · obtain ⟨r, e, h1, h2⟩ := H
    unfold m_X7_ofOne m_X7_joined
    rw [e, Option.bind_some, Option.bind_some]
    exact ⟨_, rfl, isC_join hW h1 h2⟩
  · obtain ⟨a, b, s3⟩ := s
    obtain ⟨k, hk, e3, m1, m2⟩ := hs
    dsimp only at e3 m1 m2
    subst e3
    rcases Nat.lt_or_ge k n with hlt | hge
    · left
      obtain ⟨wh, ew, hw⟩ := where_eq hW hx hc4 (show k < 4 by omega)
      have ht4 := hT.2.2.1 (16 + k) (by omega)
      have a1 := isM_add (g := fun z => tv (16 + z)) (bit := 0) m1 hw
      have a2 := isM_add (g := fun z => tv (16 + z)) (bit := 1) m2 hw
      refine ⟨(_, _, nI (k + 1)), ?_, ⟨k + 1, by omega, rfl, a1, a2⟩, ?_⟩
      · show m_X7_ofOne_s9 (nI W) (nI n) v x a b (nI k) = _
        unfold m_X7_ofOne_s9 m_X7_ofOne_j46
        rw [if_neg (nI_ge hlt (by omega)), ew, Option.bind_some, one_eq hv (by omega), Option.bind_some, nI_1]
        by_cases q0 : (tv (16 + k)).testBit 0 = false
        · rw [if_pos ((low1 _ ht4).mpr q0), Option.bind_some, if_pos q0]
          by_cases q1 : (tv (16 + k)).testBit 1 = false
          · rw [if_pos ((low2 _ ht4).mpr q1), if_pos q1]
          · rw [if_neg (fun q => q1 ((low2 _ ht4).mp q)), if_neg q1]
        · rw [if_neg (fun q => q0 ((low1 _ ht4).mp q)), Option.bind_some, if_neg q0]
          by_cases q1 : (tv (16 + k)).testBit 1 = false
          · rw [if_pos ((low2 _ ht4).mpr q1), if_pos q1]
          · rw [if_neg (fun q => q1 ((low2 _ ht4).mp q)), if_neg q1]
      · show n - (nI (k + 1)).toNatClampNeg < n - (nI k).toNatClampNeg
        rw [nI_clamp (by omega), nI_clamp (by omega)]
        omega
    · right
      obtain rfl : k = n := by omega
      refine ⟨(a, b), ?_, isM_congr m1 (fun i hi => by rw [decide_eq_true (hc i hi), Bool.true_and]), isM_congr m2 (fun i hi => by rw [decide_eq_true (hc i hi), Bool.true_and])⟩
      show m_X7_ofOne_s9 (nI W) (nI k) v x a b (nI k) = _
      unfold m_X7_ofOne_s9
      rw [if_pos (nI_le (Nat.le_refl k) (by omega))]
/-! rows of the reference -/
def isR (w : Nat) (r : Nat → Nat) (x : Int64) : Prop := ∀ i, i < 64 → b64 x i = (decide (i / 2 < w) && (r (i / 2)).testBit (i % 2))
theorem isR_uniq {w : Nat} {r : Nat → Nat} {x y : Int64} (hx : isR w r x) (hy : isR w r y) : x = y := b64_ext (fun i hi => by rw [hx i hi, hy i hi])
theorem isR_inj {w : Nat} (hw : w ≤ 27) {c d : Nat → Nat} {x : Int64} (hx : isR w c x) (hy : isR w d x) (hc : ∀ i, i < w → c i < 4) (hd : ∀ i, i < w → d i < 4) : ∀ i, i < w → c i = d i := by
  intro i hi
  refine (bits4 _ (hc i hi) _ (hd i hi)).mp ⟨?_, ?_⟩
  · have := hx (2 * i) (by omega)
    rw [hy (2 * i) (by omega), show 2 * i / 2 = i by omega, show 2 * i % 2 = 0 by omega, decide_eq_true hi] at this
    exact this.symm
  · have := hx (2 * i + 1) (by omega)
    rw [hy (2 * i + 1) (by omega), show (2 * i + 1) / 2 = i by omega, show (2 * i + 1) % 2 = 1 by omega, decide_eq_true hi] at this
    exact this.symm
theorem sh2k : ∀ k, k < 32 → (((2 * nI k).toInt64 &&& 63).toBitVec.smod 64#64).toNat = 2 * k := by decide +kernel
theorem three64 : ∀ i, i < 64 → b64 3 i = decide (i < 2) := by decide +kernel
theorem tb4 : ∀ a, a < 4 → ∀ i, i < 32 → 2 ≤ i → a.testBit i = false := by decide +kernel
theorem dig_eq {w k : Nat} (hw : w ≤ 27) {r : Nat → Nat} {x : Int64} (hx : isR w r x) (hr : ∀ i, i < w → r i < 4) (hk : k < w) : ((x >>> ((2 * nI k).toInt64 &&& 63)) &&& (3 : Int64)).toInt32 = nI (r k) := by
  refine b32_ext (fun i hi => ?_)
  rw [b32_lo _ hi, b64_and, three64 i (by omega), b32_nI, decide_eq_true hi, Bool.true_and]
  by_cases e : i < 2
  · rw [b64_shr _ _ (sh2k k (by omega)) (by omega), hx (2 * k + i) (by omega), show (2 * k + i) / 2 = k by omega, show (2 * k + i) % 2 = i by omega, decide_eq_true hk, decide_eq_true e, Bool.and_true, Bool.true_and]
  · rw [decide_eq_false e, Bool.and_false, tb4 _ (hr k hk) i hi (by omega)]
theorem tb4' : ∀ a, a < 4 → ∀ i, i < 64 → 2 ≤ i → a.testBit i = false := by decide +kernel
/-- one value more -/
theorem isR_add {k d : Nat} (hk : k < 27) (hd : d < 4) {r : Nat → Nat} {x : Int64} (hx : isR k r x) (hrk : r k = d) : isR (k + 1) r (x ||| ((nI d).toInt64 <<< ((2 * nI k).toInt64 &&& 63))) := by
  intro i hi
  rw [b64_or, b64_shl _ _ (sh2k k (by omega)) hi, hx i hi, nI_l (by omega), b64_lN, decide_eq_true (show i - 2 * k < 64 by omega), Bool.true_and]
  by_cases e : i < 2 * k
  · rw [decide_eq_true e, decide_eq_true (show i / 2 < k by omega), decide_eq_true (show i / 2 < k + 1 by omega)]
    simp
  · rw [decide_eq_false e, decide_eq_false (show ¬ i / 2 < k by omega), Bool.false_and, Bool.false_or]
    by_cases q : i / 2 < k + 1
    · rw [decide_eq_true q, show i / 2 = k by omega, hrk, show i - 2 * k = i % 2 by omega]
      rfl
    · rw [decide_eq_false q, tb4' d hd (i - 2 * k) (by omega) (by omega)]
      rfl
theorem isR_0 {r : Nat → Nat} : isR 0 r 0 := by
  intro i hi
  rw [b64_0, decide_eq_false (by omega)]
  rfl
theorem fOf_eq {n w : Nat} {v : Nat → Int32} {tv : Nat → Nat} (hT : okT n tv) (hv : asT v tv) (hw : w ≤ 27) {r s : Nat → Nat} {x y : Int64} (hx : isR w r x) (hy : isR w s y) (hr : ∀ i, i < w → r i < n) (hs : ∀ i, i < w → s i < n) : ∃ z, m_X9_fOf v x y (nI w) = some z ∧ isR w (fun i => tv (4 * r i + s i)) z := by
  have h4 := hT.2.1
  have H := lp_inv (step := fun q : (Int64 × Int32) => m_X9_fOf_s6 v x y (nI w) q.1 q.2) (fun t => ∃ k, k ≤ w ∧ t.2 = nI k ∧ isR k (fun i => tv (4 * r i + s i)) t.1) (fun t => w - t.2.toNatClampNeg) (fun z => isR w (fun i => tv (4 * r i + s i)) z) (fun t ht => ?_) 1000 ((0 : Int64), 0) ⟨0, by omega, rfl, isR_0⟩ (by show w - _ < 1000; omega)
  · obtain ⟨z, e, h⟩ := H
    unfold m_X9_fOf
    rw [e, Option.bind_some]
    exact ⟨z, rfl, h⟩
  · obtain ⟨a, b⟩ := t
    obtain ⟨k, hk, e3, m1⟩ := ht
    dsimp only at e3 m1
    subst e3
    rcases Nat.lt_or_ge k w with hlt | hge
    · left
      have h1 := hr k hlt
      have h2 := hs k hlt
      refine ⟨(_, nI (k + 1)), ?_, ⟨k + 1, by omega, rfl, isR_add (by omega) (hT.2.2.1 (4 * r k + s k) (by omega)) m1 rfl⟩, ?_⟩
      · show m_X9_fOf_s6 v x y (nI w) a (nI k) = _
        unfold m_X9_fOf_s6 nm
        rw [if_neg (nI_ge hlt (by omega)), dig_eq hw hx (fun i hi => Nat.lt_of_lt_of_le (hr i hi) h4) hlt, dig_eq hw hy (fun i hi => Nat.lt_of_lt_of_le (hs i hi) h4) hlt, ff_eq hv (by omega) (by omega), Option.bind_some, nI_1]
      · show w - (nI (k + 1)).toNatClampNeg < w - (nI k).toNatClampNeg
        rw [nI_clamp (by omega), nI_clamp (by omega)]
        omega
    · right
      obtain rfl : k = w := by omega
      refine ⟨a, ?_, m1⟩
      show m_X9_fOf_s6 v x y (nI k) a (nI k) = _
      unfold m_X9_fOf_s6
      rw [if_pos (nI_le (Nat.le_refl k) (by omega))]
theorem gOf_eq {n w : Nat} {v : Nat → Int32} {tv : Nat → Nat} (hT : okT n tv) (hv : asT v tv) (hw : w ≤ 27) {r : Nat → Nat} {x : Int64} (hx : isR w r x) (hr : ∀ i, i < w → r i < n) : ∃ z, m_X9_gOf v x (nI w) = some z ∧ isR w (fun i => tv (16 + r i)) z := by
  have h4 := hT.2.1
  have H := lp_inv (step := fun q : (Int64 × Int32) => m_X9_gOf_s6 v x (nI w) q.1 q.2) (fun t => ∃ k, k ≤ w ∧ t.2 = nI k ∧ isR k (fun i => tv (16 + r i)) t.1) (fun t => w - t.2.toNatClampNeg) (fun z => isR w (fun i => tv (16 + r i)) z) (fun t ht => ?_) 1000 ((0 : Int64), 0) ⟨0, by omega, rfl, isR_0⟩ (by show w - _ < 1000; omega)
  · obtain ⟨z, e, h⟩ := H
    unfold m_X9_gOf
    rw [e, Option.bind_some]
    exact ⟨z, rfl, h⟩
  · obtain ⟨a, b⟩ := t
    obtain ⟨k, hk, e3, m1⟩ := ht
    dsimp only at e3 m1
    subst e3
    rcases Nat.lt_or_ge k w with hlt | hge
    · left
      have h1 := hr k hlt
      refine ⟨(_, nI (k + 1)), ?_, ⟨k + 1, by omega, rfl, isR_add (by omega) (hT.2.2.1 (16 + r k) (by omega)) m1 rfl⟩, ?_⟩
      · show m_X9_gOf_s6 v x (nI w) a (nI k) = _
        unfold m_X9_gOf_s6 nm
        rw [if_neg (nI_ge hlt (by omega)), dig_eq hw hx (fun i hi => Nat.lt_of_lt_of_le (hr i hi) h4) hlt, gg_eq hv (by omega), Option.bind_some, nI_1]
      · show w - (nI (k + 1)).toNatClampNeg < w - (nI k).toNatClampNeg
        rw [nI_clamp (by omega), nI_clamp (by omega)]
        omega
    · right
      obtain rfl : k = w := by omega
      refine ⟨a, ?_, m1⟩
      show m_X9_gOf_s6 v x (nI k) a (nI k) = _
      unfold m_X9_gOf_s6
      rw [if_pos (nI_le (Nat.le_refl k) (by omega))]
