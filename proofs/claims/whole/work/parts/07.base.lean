/-! the pure side: what a method does as a function into Option (none: an index outside, a divisor 0, or a loop that has not ended) -/
def sat {ρ : Type} (m : Option ρ) (K : ρ → Prop) : Prop := ∃ r, m = some r ∧ K r
theorem sat_some {ρ : Type} {r : ρ} {K : ρ → Prop} (h : sat (some r) K) : K r := by
  obtain ⟨q, e, hk⟩ := h
  cases e
  exact hk
theorem sat_t {ρ : Type} {c : Prop} [Decidable c] {a b : Option ρ} {K : ρ → Prop} (hc : c) (h : sat (if c then a else b) K) : sat a K := by rwa [if_pos hc] at h
theorem sat_f {ρ : Type} {c : Prop} [Decidable c] {a b : Option ρ} {K : ρ → Prop} (hc : ¬ c) (h : sat (if c then a else b) K) : sat b K := by rwa [if_neg hc] at h
def gd {ρ : Type} (c : Prop) [Decidable c] (m : Option ρ) : Option ρ := if c then m else none
theorem sat_gd {ρ : Type} {c : Prop} [Decidable c] {m : Option ρ} {K : ρ → Prop} (h : sat (gd c m) K) : c ∧ sat m K := by
  by_cases hc : c
  · exact ⟨hc, by rwa [gd, if_pos hc] at h⟩
  · rw [gd, if_neg hc] at h
    obtain ⟨r, e, _⟩ := h
    cases e
theorem sat_bind {α ρ : Type} {m : Option α} {k : α → Option ρ} {K : ρ → Prop} (h : sat (m.bind k) K) : sat m (fun r => sat (k r) K) := by
  obtain ⟨r, e, hk⟩ := h
  cases m with
  | none => cases e
  | some a => exact ⟨a, rfl, r, e, hk⟩
def bd2 {α β ρ : Type} (m : Option (α × β)) (k : α → β → Option ρ) : Option ρ := m.bind (fun q => k q.1 q.2)
def pK {α β : Type} (K : α → β → Prop) : α × β → Prop := fun q => K q.1 q.2
theorem sat_bd2 {α β ρ : Type} {m : Option (α × β)} {k : α → β → Option ρ} {K : ρ → Prop} (h : sat (bd2 m k) K) : sat m (pK (fun a b => sat (k a b) K)) := sat_bind h
def im2 (a b : Nat) : Nat → Option Nat := va_up (va_up (fun _ => none) 0 (some a)) 1 (some b)
def lk {σ ρ : Type} (P : σ → Prop) (Q : ρ → Prop) (o : σ ⊕ ρ) : Prop := match o with
  | .inl s => P s
  | .inr r => Q r
theorem lk_l {σ ρ : Type} {P : σ → Prop} {Q : ρ → Prop} {s : σ} (h : lk P Q (.inl s)) : P s := h
theorem lk_r {σ ρ : Type} {P : σ → Prop} {Q : ρ → Prop} {r : ρ} (h : lk P Q (.inr r)) : Q r := h
def bdS {α β ρ : Type} (m : Option (α ⊕ β)) (ka : α → Option ρ) (kb : β → Option ρ) : Option ρ := m.bind (fun o => Sum.elim ka kb o)
theorem sat_bdS {α β ρ : Type} {m : Option (α ⊕ β)} {ka : α → Option ρ} {kb : β → Option ρ} {K : ρ → Prop} (h : sat (bdS m ka kb) K) : sat m (lk (fun a => sat (ka a) K) (fun b => sat (kb b) K)) := by
  obtain ⟨o, e, hk⟩ := sat_bind h
  refine ⟨o, e, ?_⟩
  cases o with
  | inl a => exact hk
  | inr b => exact hk
def rd {α ρ : Type} (n : Nat) (f : Nat → α) (i : Int32) (k : α → Option ρ) : Option ρ := if i < 0 ∨ n ≤ i.toNatClampNeg then none else k (f i.toNatClampNeg)
theorem sat_rd {α ρ : Type} {n : Nat} {f : Nat → α} {i : Int32} {k : α → Option ρ} {K : ρ → Prop} (h : sat (rd n f i k) K) : ∃ v, v = f i.toNatClampNeg ∧ vp_in i n ∧ sat (k v) K := by
  by_cases hc : i < 0 ∨ n ≤ i.toNatClampNeg
  · rw [rd, if_pos hc] at h
    obtain ⟨r, e, _⟩ := h
    cases e
  · exact ⟨_, rfl, hc, by rwa [rd, if_neg hc] at h⟩
def wrI {ρ : Type} (n : Nat) (f : Nat → Int32) (i x : Int32) (k : (Nat → Int32) → Option ρ) : Option ρ := if i < 0 ∨ n ≤ i.toNatClampNeg then none else k (upd f i.toNatClampNeg x)
theorem sat_wrI {ρ : Type} {n : Nat} {f : Nat → Int32} {i x : Int32} {k : (Nat → Int32) → Option ρ} {K : ρ → Prop} (h : sat (wrI n f i x k) K) : ∃ v, v = upd f i.toNatClampNeg x ∧ vp_in i n ∧ sat (k v) K := by
  by_cases hc : i < 0 ∨ n ≤ i.toNatClampNeg
  · rw [wrI, if_pos hc] at h
    obtain ⟨r, e, _⟩ := h
    cases e
  · exact ⟨_, rfl, hc, by rwa [wrI, if_neg hc] at h⟩
def wrL {ρ : Type} (n : Nat) (f : Nat → Int64) (i : Int32) (x : Int64) (k : (Nat → Int64) → Option ρ) : Option ρ := if i < 0 ∨ n ≤ i.toNatClampNeg then none else k (vp_updL f i.toNatClampNeg x)
theorem sat_wrL {ρ : Type} {n : Nat} {f : Nat → Int64} {i : Int32} {x : Int64} {k : (Nat → Int64) → Option ρ} {K : ρ → Prop} (h : sat (wrL n f i x k) K) : ∃ v, v = vp_updL f i.toNatClampNeg x ∧ vp_in i n ∧ sat (k v) K := by
  by_cases hc : i < 0 ∨ n ≤ i.toNatClampNeg
  · rw [wrL, if_pos hc] at h
    obtain ⟨r, e, _⟩ := h
    cases e
  · exact ⟨_, rfl, hc, by rwa [wrL, if_neg hc] at h⟩
def nm {α ρ : Type} (e : α) (k : α → Option ρ) : Option ρ := k e
theorem sat_nm {α ρ : Type} {e : α} {k : α → Option ρ} {K : ρ → Prop} (h : sat (nm e k) K) : ∃ v, v = e ∧ sat (k v) K := ⟨e, rfl, h⟩
def lp {σ ρ : Type} (step : σ → Option (σ ⊕ ρ)) : Nat → σ → Option ρ
  | 0, _ => none
  | n + 1, s => (step s).bind (fun o => Sum.elim (lp step n) some o)
theorem sat_lp0 {σ ρ : Type} {step : σ → Option (σ ⊕ ρ)} {s : σ} {K : ρ → Prop} (h : sat (lp step 0 s) K) : False := by
  obtain ⟨r, e, _⟩ := h
  cases e
theorem sat_lp {σ ρ : Type} {step : σ → Option (σ ⊕ ρ)} {n : Nat} {s : σ} {K : ρ → Prop} (h : sat (lp step (n + 1) s) K) : sat (step s) (lk (fun s' => sat (lp step n s') K) K) := by
  obtain ⟨o, e, hk⟩ := sat_bind h
  refine ⟨o, e, ?_⟩
  cases o with
  | inl a => exact hk
  | inr b =>
    show K b
    exact sat_some (show sat (some b) K from hk)
theorem zn {v : Int32} (h : v = 0 ∨ v = 1) : narrow .boolean (.int v) = .int v := by
  rcases h with rfl | rfl <;> rfl
/-! the words that all contracts use -/
noncomputable abbrev vwCl : List vw_C := [(RX1, TX1, 3), (RX2, TX2, 3), (RX5, TX5, 4), (RX6, TX6, 2), (RX7, TX7, 12), (RX8, TX8, 12), (RX9, TX9, 21)]
abbrev tyS (y : ClassId × ClassId × ClassId × ClassId) : List (ClassId × FieldType) := [(y.1, .int), (y.2.1, .long), (y.2.2.1, .boolean), (y.2.2.2, .object "AlgebraLaws$Tables")]
def qSi (K : Int32 → Prop) : Array Value → State → Outcome → State → Prop := fun _ st oc t => ∃ r : Int32, oc = .returned (some (.int r)) ∧ K r ∧ t.heap = st.heap
def qSl (K : Int64 → Prop) : Array Value → State → Outcome → State → Prop := fun _ st oc t => ∃ r : Int64, oc = .returned (some (.long r)) ∧ K r ∧ t.heap = st.heap
abbrev pR (D : va_G) (y : ClassId × ClassId × ClassId × ClassId) (av : List Value) (ws : va_W) : Array Value → State → Prop := va_Pc av (fun U => va_P D vwCl ws U.heap ∧ va_K D vwCl (tyS y) U)
abbrev pW (D : va_G) (y : ClassId × ClassId × ClassId × ClassId) (av : List Value) (ws : va_W) (sz : Nat) : Array Value → State → Prop := va_Pc av (fun U => U.heap.size = sz ∧ va_P D vwCl ws U.heap ∧ va_K D vwCl (tyS y) U ∧ va_D (fun _ => True) ws)
abbrev bW {S : Type} (D : va_G) (y : ClassId × ClassId × ClassId × ClassId) (A : Nat → Prop) (w1 : S → va_W) : S → State → Prop := fun u t => va_P D vwCl (w1 u) t.heap ∧ va_K D vwCl (tyS y) t ∧ va_D A (w1 u)
theorem fb_R {D : va_G} {y : ClassId × ClassId × ClassId × ClassId} {av : List Value} {ws : va_W} : FrameBlind (pR D y av ws) := fun a U g mk q => by
  obtain ⟨q0, qP, qK⟩ := q
  exact ⟨q0, qP, va_K.moved (u := U) (U := U.calling g mk a) (Vm.Alike.refl U.vm) qK⟩
theorem fb_W {D : va_G} {y : ClassId × ClassId × ClassId × ClassId} {av : List Value} {ws : va_W} {sz : Nat} : FrameBlind (pW D y av ws sz) := fun a U g mk q => by
  obtain ⟨q0, q1, qP, qK, qD⟩ := q
  exact ⟨q0, q1, qP, va_K.moved (u := U) (U := U.calling g mk a) (Vm.Alike.refl U.vm) qK, qD⟩
section BASE
variable {p : Program} {l : Launch} {e : Env} {R : Room} {s : State} {m : MethodId} {args : Array Value} {below : List Frame} {meth : Method} {c : Code} {H : Heap} {locs : List Loc} {cells slots : Nat} {Q : State → Prop}
variable {pc : Nat} {ls : Array Slot} {rest st0 : List Value} {D : va_G} {y4 : ClassId × ClassId × ClassId × ClassId} {cc : ByteArray} {ws wc : va_W}
theorem run_R {g : JFrame} {Qa : State → Outcome → State → Prop} (hr : va_Run p l e R s m args below meth c H locs cells slots 0 0 g rest Qa (fun _ => False)) (hh : ∀ (st0 t : State) (v : Option Value), Qa st0 (.returned v) t → t.heap = st0.heap)
    (kk : ∀ (v : Option Value) (st0 t : State), Qa st0 (.returned v) t → W p l e R s m args below meth c H locs cells slots Q { g with pc := g.pc + 3, stack := v.toList ++ rest }) : W p l e R s m args below meth c H locs cells slots Q g := by
  intro T hT X
  obtain ⟨v, st₀, t, T', L, h0, X', hL, e1, e2, hq, st⟩ := hr T hT X
  have hLe : L = [] := List.eq_nil_iff_forall_not_mem.mpr (fun a ha => hL a ha)
  subst hLe
  rw [List.append_nil] at X'
  obtain ⟨t2, a1, b1⟩ := kk v st₀ t hq T' (by rw [e1, hh st₀ t v hq]; exact h0) X'
  exact ⟨t2, st t2 a1, b1⟩
theorem cr_i {K : Int32 → Prop} {a : Array Value} (hr : va_Run p l e R s m args below meth c H locs cells slots 0 0 (F0 m pc ls st0) rest (qSi K a) (fun _ => False))
    (kk : ∀ r : Int32, K r → W p l e R s m args below meth c H locs cells slots Q (F0 m (pc + 3) ls (.int r :: rest))) : W p l e R s m args below meth c H locs cells slots Q (F0 m pc ls st0) := by
  refine run_R hr (fun _ _ _ h => ?_) (fun v st t h => ?_)
  · obtain ⟨r, _, _, h⟩ := h
    exact h
  · obtain ⟨r, h1, h2, _⟩ := h
    cases h1
    exact kk r h2
theorem cr_l {K : Int64 → Prop} {a : Array Value} (hr : va_Run p l e R s m args below meth c H locs cells slots 0 0 (F0 m pc ls st0) rest (qSl K a) (fun _ => False))
    (kk : ∀ r : Int64, K r → W p l e R s m args below meth c H locs cells slots Q (F0 m (pc + 3) ls (.long r :: rest))) : W p l e R s m args below meth c H locs cells slots Q (F0 m pc ls st0) := by
  refine run_R hr (fun _ _ _ h => ?_) (fun v st t h => ?_)
  · obtain ⟨r, _, _, h⟩ := h
    exact h
  · obtain ⟨r, h1, h2, _⟩ := h
    cases h1
    exact kk r h2
variable {y : MethodName} {bytes : ByteArray} {maxL nL n index : Nat} {ret : Option FieldType} {w0 : List Cond} {rm : Room} {Ts : List Cond} {own C : String} {b : Addr} {As : List Value} {Qc : Array Value → State → Outcome → State → Prop}
/-- a virtual call of a method that only reads -/
theorem rv (S : CallFix p m c cc nL s args Ts own) (hM : Met l y w0 rm (pR D y4 (.ref b :: As) wc) Qc 0 0 (fun _ => False)) (cw : CallW R s args own C index y bytes maxL ret w0 rm 0 0 n) (hK : va_K D vwCl (tyS y4) s) (hP : va_P D vwCl ws H) (isC : List Nat) (hC : isC.filterMap (fun i => ws[i]?) = wc) (q0 ci : Nat) {fs : List Value} {q : vw_C} (hc : vwCl[ci]? = some q) (he : ws[q0]? = some (b, .inr (ci, fs))) (hq : q.1 = C)
    (hn : As.length = n) (hl : ls.size = nL) (hst : st0 = As.reverse ++ .ref b :: rest) (hr : (rest.map fun v => v.category).sum ≤ 8) (hdg : decode cc pc = .ok (.invokevirtual index, 3)) (hf : cells ≤ R.cells ∧ slots ≤ R.slots) : va_Run p l e R s m args below meth c H locs cells slots 0 0 (F0 m pc ls st0) rest (Qc (Value.ref b :: As).toArray) (fun _ => False) := by
  have hPc := hP.sub isC hC
  subst hq
  exact va_runV (As := As) (rest := rest) S hM cw ⟨fb_R, va_recv hK hP hc he, fun U hU hW => ⟨rfl, by rw [hU]; exact hPc, va_K.moved hW.alike hK⟩⟩ rfl hn hl hst (lv_room hr) hdg hf
/-- a static call of a method that only reads -/
theorem rs (S : CallFix p m c cc nL s args Ts own) (hM : Met l y w0 rm (pR D y4 As wc) Qc 0 0 (fun _ => False)) (cw : CallB R s args own index y bytes maxL ret w0 rm 0 0 n ∧ (Cond.static y).before args s = true) (hK : va_K D vwCl (tyS y4) s) (hP : va_P D vwCl ws H) (isC : List Nat) (hC : isC.filterMap (fun i => ws[i]?) = wc)
    (hn : As.length = n) (hl : ls.size = nL) (hst : st0 = As.reverse ++ rest) (hr : (rest.map fun v => v.category).sum ≤ 8) (hdg : decode cc pc = .ok (.invokestatic index, 3)) (hf : cells ≤ R.cells ∧ slots ≤ R.slots) : va_Run p l e R s m args below meth c H locs cells slots 0 0 (F0 m pc ls st0) rest (Qc As.toArray) (fun _ => False) := by
  have hPc := hP.sub isC hC
  exact va_runS (As := As) (rest := rest) S hM cw ⟨fb_R, fun U hU hW => ⟨rfl, by rw [hU]; exact hPc, va_K.moved hW.alike hK⟩⟩ rfl hn hl hst (lv_room hr) hdg hf
variable {A : Nat → Prop} {H0 : Heap} {free : Addr → Prop} {Pc : Array Value → State → Prop}
/-- a virtual call of a method that writes -/
theorem wv (S : CallFix p m c cc nL s args Ts own) (hM : Met l y w0 rm (pW D y4 (.ref b :: As) wc H.size) Qc 0 0 free) (cw : CallW R s args own C index y bytes maxL ret w0 rm 0 0 n) (hK : va_K D vwCl (tyS y4) s) (hP : va_P D vwCl ws H) (hD : va_D A ws) (isC : List Nat) (hnd : va_nd isC = true) (hC : isC.map (fun i => ws[i]?) = wc.map some) (hC2 : isC.filterMap (fun i => ws[i]?) = wc) (q0 ci : Nat) {fs : List Value} {q : vw_C} (hc : vwCl[ci]? = some q) (he : ws[q0]? = some (b, .inr (ci, fs))) (hq : q.1 = C)
    (hn : As.length = n) (hl : ls.size = nL) (hst : st0 = As.reverse ++ .ref b :: rest) (hr : (rest.map fun v => v.category).sum ≤ 8) (hdg : decode cc pc = .ok (.invokevirtual index, 3)) (hf : cells ≤ R.cells ∧ slots ≤ R.slots) : va_Run p l e R s m args below meth c H locs cells slots 0 0 (F0 m pc ls st0) rest (Qc (Value.ref b :: As).toArray) free := by
  have hPc := hP.sub isC hC2
  have hDc := hD.sub isC hnd hC
  subst hq
  exact va_runV (As := As) (rest := rest) S hM cw ⟨fb_W, va_recv hK hP hc he, fun U hU hW => ⟨rfl, by rw [hU], by rw [hU]; exact hPc, va_K.moved hW.alike hK, hDc.weaken (fun _ _ _ _ => trivial)⟩⟩ rfl hn hl hst (lv_room hr) hdg hf
theorem wsc (S : CallFix p m c cc nL s args Ts own) (hM : Met l y w0 rm (pW D y4 As wc H.size) Qc 0 0 free) (cw : CallB R s args own index y bytes maxL ret w0 rm 0 0 n ∧ (Cond.static y).before args s = true) (hK : va_K D vwCl (tyS y4) s) (hP : va_P D vwCl ws H) (hD : va_D A ws) (isC : List Nat) (hnd : va_nd isC = true) (hC : isC.map (fun i => ws[i]?) = wc.map some) (hC2 : isC.filterMap (fun i => ws[i]?) = wc)
    (hn : As.length = n) (hl : ls.size = nL) (hst : st0 = As.reverse ++ rest) (hr : (rest.map fun v => v.category).sum ≤ 8) (hdg : decode cc pc = .ok (.invokestatic index, 3)) (hf : cells ≤ R.cells ∧ slots ≤ R.slots) : va_Run p l e R s m args below meth c H locs cells slots 0 0 (F0 m pc ls st0) rest (Qc As.toArray) free := by
  have hPc := hP.sub isC hC2
  have hDc := hD.sub isC hnd hC
  exact va_runS (As := As) (rest := rest) S hM cw ⟨fb_W, fun U hU hW => ⟨rfl, by rw [hU], by rw [hU]; exact hPc, va_K.moved hW.alike hK, hDc.weaken (fun _ _ _ _ => trivial)⟩⟩ rfl hn hl hst (lv_room hr) hdg hf
/-- behind such a call: void, and an int -/
theorem cw_v {S : Type} {K : S → Prop} {w1 : S → va_W} {wn : S → va_W} {a : Array Value} (hr : va_Run p l e R s m args below meth c H locs cells slots 0 0 (F0 m pc ls st0) rest (va_Qv K (bW D y4 (va_A wc H.size) w1) (va_A wc H.size) a) (va_A wc H.size)) (hS : va_S A H0 H locs) (hP : va_P D vwCl ws H) (hD : va_D A ws) (hA : ∀ q, H0.size ≤ q → A q) (isC isR pm : List Nat) {wr : va_W} (hC : isC.map (fun i => ws[i]?) = wc.map some) (hR : isR.map (fun i => ws[i]?) = wr.map some) (hn : va_nd isR = true) (hdis : ∀ i ∈ isR, i ∉ isC) (hp1 : ∀ u, pm.filterMap (fun i => (wr ++ w1 u)[i]?) = wn u) (hpn : va_nd pm = true) (hp2 : ∀ u, pm.map (fun i => (wr ++ w1 u)[i]?) = (wn u).map some)
    (kk : ∀ (u : S) (H1 : Heap) (locs1 : List Loc), K u → va_P D vwCl (wn u) H1 → va_D A (wn u) → va_S A H0 H1 locs1 → W p l e R s m args below meth c H1 locs1 cells slots Q (F0 m (pc + 3) ls rest)) : W p l e R s m args below meth c H locs cells slots Q (F0 m pc ls st0) := by
  have hFc := va_free (wc := wc) hD hS hA isC hC
  refine va_callv hr hS (fun q _ h => hFc q h) hFc (fun u t H1 locs1 ht hvm hw hB hz1 hk1 hS1 => ?_)
  obtain ⟨hP1, hK1, hD1⟩ := hB
  rw [ht] at hP1
  obtain ⟨hP2, hD2⟩ := va_join (wr := wr) (w1 := w1 u) hP hD isC isR hC hR hn hdis hk1 hFc hP1 hD1
  exact kk u H1 locs1 hw (hP2.sub pm (hp1 u)) (hD2.sub pm hpn (hp2 u)) hS1
theorem cw_i {S : Type} {K : Int32 → S → Prop} {w1 : S → va_W} {wn : S → va_W} {a : Array Value} (hr : va_Run p l e R s m args below meth c H locs cells slots 0 0 (F0 m pc ls st0) rest (va_Qi K (bW D y4 (va_A wc H.size) w1) (va_A wc H.size) a) (va_A wc H.size)) (hS : va_S A H0 H locs) (hP : va_P D vwCl ws H) (hD : va_D A ws) (hA : ∀ q, H0.size ≤ q → A q) (isC isR pm : List Nat) {wr : va_W} (hC : isC.map (fun i => ws[i]?) = wc.map some) (hR : isR.map (fun i => ws[i]?) = wr.map some) (hn : va_nd isR = true) (hdis : ∀ i ∈ isR, i ∉ isC) (hp1 : ∀ u, pm.filterMap (fun i => (wr ++ w1 u)[i]?) = wn u) (hpn : va_nd pm = true) (hp2 : ∀ u, pm.map (fun i => (wr ++ w1 u)[i]?) = (wn u).map some)
    (kk : ∀ (r : Int32) (u : S) (H1 : Heap) (locs1 : List Loc), K r u → va_P D vwCl (wn u) H1 → va_D A (wn u) → va_S A H0 H1 locs1 → W p l e R s m args below meth c H1 locs1 cells slots Q (F0 m (pc + 3) ls (.int r :: rest))) : W p l e R s m args below meth c H locs cells slots Q (F0 m pc ls st0) := by
  have hFc := va_free (wc := wc) hD hS hA isC hC
  refine va_calli hr hS (fun q _ h => hFc q h) hFc (fun r u t H1 locs1 ht hvm hw hB hz1 hk1 hS1 => ?_)
  obtain ⟨hP1, hK1, hD1⟩ := hB
  rw [ht] at hP1
  obtain ⟨hP2, hD2⟩ := va_join (wr := wr) (w1 := w1 u) hP hD isC isR hC hR hn hdis hk1 hFc hP1 hD1
  exact kk r u H1 locs1 hw (hP2.sub pm (hp1 u)) (hD2.sub pm hpn (hp2 u)) hS1
/-- rows that name what comes -/
theorem tI {x v : Int32} (h : v = x) (k : W p l e R s m args below meth c H locs cells slots Q (F0 m pc ls (.int v :: rest))) : W p l e R s m args below meth c H locs cells slots Q (F0 m pc ls (.int x :: rest)) := h ▸ k
theorem tL {x v : Int64} (h : v = x) (k : W p l e R s m args below meth c H locs cells slots Q (F0 m pc ls (.long v :: rest))) : W p l e R s m args below meth c H locs cells slots Q (F0 m pc ls (.long x :: rest)) := h ▸ k
end BASE
section BASE2
variable {p : Program} {l : Launch} {e : Env} {R : Room} {s : State} {m : MethodId} {args : Array Value} {below : List Frame} {meth : Method} {c : Code} {H : Heap} {locs : List Loc} {cells slots : Nat} {Q : State → Prop}
variable {pc : Nat} {ls : Array Slot} {rest : List Value} {D : va_G} {cl : List vw_C} {tys : List (ClassId × FieldType)} {ws : va_W} {cc : ByteArray} {A : Nat → Prop} {H0 : Heap} {a : Nat}
theorem xi (hexec : p.tables.exec = Jvm.exec) (hb : c.code = cc) (hK : va_K D cl tys s) (hP : va_P D cl ws H) (q0 t0 : Nat) {cA : ClassId} {n : Nat} {f : Nat → Int32} (ha : ws[q0]? = some (a, .inl (cA, n, .inl f))) (ht : tys[t0]? = some (cA, .int)) {i v : Int32} (hv : v = f i.toNatClampNeg) (hin : vp_in i n) (hdg : decode cc pc = .ok (.iaload, 1))
    (kk : W p l e R s m args below meth c H locs cells slots Q (F0 m (pc + 1) ls (.int v :: rest))) : W p l e R s m args below meth c H locs cells slots Q (F0 m pc ls (.int i :: .ref a :: rest)) := va_iald hexec hb hK hP q0 t0 ha ht hin hdg (hv ▸ kk)
theorem xl (hexec : p.tables.exec = Jvm.exec) (hb : c.code = cc) (hK : va_K D cl tys s) (hP : va_P D cl ws H) (q0 t0 : Nat) {cA : ClassId} {n : Nat} {f : Nat → Int64} (ha : ws[q0]? = some (a, .inl (cA, n, .inr (.inl f)))) (ht : tys[t0]? = some (cA, .long)) {i : Int32} {v : Int64} (hv : v = f i.toNatClampNeg) (hin : vp_in i n) (hdg : decode cc pc = .ok (.laload, 1))
    (kk : W p l e R s m args below meth c H locs cells slots Q (F0 m (pc + 1) ls (.long v :: rest))) : W p l e R s m args below meth c H locs cells slots Q (F0 m pc ls (.int i :: .ref a :: rest)) := va_lald hexec hb hK hP q0 t0 ha ht hin hdg (hv ▸ kk)
theorem xz (hexec : p.tables.exec = Jvm.exec) (hb : c.code = cc) (hK : va_K D cl tys s) (hP : va_P D cl ws H) (q0 t0 : Nat) {cA : ClassId} {n : Nat} {f : Nat → Int32} (ha : ws[q0]? = some (a, .inl (cA, n, .inl f))) (ht : tys[t0]? = some (cA, .boolean)) {i v : Int32} (hv : v = f i.toNatClampNeg) (hin : vp_in i n) (hdg : decode cc pc = .ok (.baload, 1))
    (kk : W p l e R s m args below meth c H locs cells slots Q (F0 m (pc + 1) ls (.int v :: rest))) : W p l e R s m args below meth c H locs cells slots Q (F0 m pc ls (.int i :: .ref a :: rest)) := va_zald hexec hb hK hP q0 t0 ha ht hin hdg (hv ▸ kk)
theorem yi (hexec : p.tables.exec = Jvm.exec) (hb : c.code = cc) (hK : va_K D cl tys s) (hP : va_P D cl ws H) (hD : va_D A ws) (hS : va_S A H0 H locs) (q0 t0 : Nat) {cA : ClassId} {n : Nat} {f v : Nat → Int32} (ha : ws[q0]? = some (a, .inl (cA, n, .inl f))) (ht : tys[t0]? = some (cA, .int)) {i : Int32} {x : Int32} (hv : v = upd f i.toNatClampNeg x) (hin : vp_in i n) (hdg : decode cc pc = .ok (.iastore, 1)) {wn : va_W} (hw : ws.set q0 (a, .inl (cA, n, .inl v)) = wn)
    (kk : ∀ (H1 : Heap) (locs1 : List Loc), va_P D cl wn H1 → va_D A wn → va_S A H0 H1 locs1 → W p l e R s m args below meth c H1 locs1 cells slots Q (F0 m (pc + 1) ls rest)) : W p l e R s m args below meth c H locs cells slots Q (F0 m pc ls (.int x :: .int i :: .ref a :: rest)) := by
  subst hw; subst hv
  exact va_iast hexec hb hK hP hD hS q0 t0 ha ht hin hdg kk
theorem yl (hexec : p.tables.exec = Jvm.exec) (hb : c.code = cc) (hK : va_K D cl tys s) (hP : va_P D cl ws H) (hD : va_D A ws) (hS : va_S A H0 H locs) (q0 t0 : Nat) {cA : ClassId} {n : Nat} {f v : Nat → Int64} (ha : ws[q0]? = some (a, .inl (cA, n, .inr (.inl f)))) (ht : tys[t0]? = some (cA, .long)) {i : Int32} {x : Int64} (hv : v = vp_updL f i.toNatClampNeg x) (hin : vp_in i n) (hdg : decode cc pc = .ok (.lastore, 1)) {wn : va_W} (hw : ws.set q0 (a, .inl (cA, n, .inr (.inl v))) = wn)
    (kk : ∀ (H1 : Heap) (locs1 : List Loc), va_P D cl wn H1 → va_D A wn → va_S A H0 H1 locs1 → W p l e R s m args below meth c H1 locs1 cells slots Q (F0 m (pc + 1) ls rest)) : W p l e R s m args below meth c H locs cells slots Q (F0 m pc ls (.long x :: .int i :: .ref a :: rest)) := by
  subst hw; subst hv
  exact va_last hexec hb hK hP hD hS q0 t0 ha ht hin hdg kk
theorem yz (hexec : p.tables.exec = Jvm.exec) (hb : c.code = cc) (hK : va_K D cl tys s) (hP : va_P D cl ws H) (hD : va_D A ws) (hS : va_S A H0 H locs) (q0 t0 : Nat) {cA : ClassId} {n : Nat} {f v : Nat → Int32} (ha : ws[q0]? = some (a, .inl (cA, n, .inl f))) (ht : tys[t0]? = some (cA, .boolean)) {i : Int32} {x : Int32} (hv : v = upd f i.toNatClampNeg x) (hx : vp_nar .boolean x = x) (hin : vp_in i n) (hdg : decode cc pc = .ok (.bastore, 1)) {wn : va_W} (hw : ws.set q0 (a, .inl (cA, n, .inl v)) = wn)
    (kk : ∀ (H1 : Heap) (locs1 : List Loc), va_P D cl wn H1 → va_D A wn → va_S A H0 H1 locs1 → W p l e R s m args below meth c H1 locs1 cells slots Q (F0 m (pc + 1) ls rest)) : W p l e R s m args below meth c H locs cells slots Q (F0 m pc ls (.int x :: .int i :: .ref a :: rest)) := by
  subst hw; subst hv
  refine va_zast hexec hb hK hP hD hS q0 t0 ha ht hin hdg ?_
  rw [hx]
  exact kk
theorem xa (hexec : p.tables.exec = Jvm.exec) (hb : c.code = cc) (hK : va_K D cl tys s) (hP : va_P D cl ws H) (q0 t0 : Nat) {cA : ClassId} {C : String} {n : Nat} {f : Nat → Option Nat} (ha : ws[q0]? = some (a, .inl (cA, n, .inr (.inr (.inr (.inr f)))))) (ht : tys[t0]? = some (cA, .object C)) {i : Int32} {j b : Nat} (hi : i.toNatClampNeg = j) (hin : vp_in i n) (hf : f j = some b) (hdg : decode cc pc = .ok (.aaload, 1))
    (kk : W p l e R s m args below meth c H locs cells slots Q (F0 m (pc + 1) ls (.ref b :: rest))) : W p l e R s m args below meth c H locs cells slots Q (F0 m pc ls (.int i :: .ref a :: rest)) := by
  refine va_aldq hexec hb hK hP q0 t0 ha ht hin hdg ?_
  rw [hi, hf]
  exact kk
/-- System.arraycopy over ints -/
theorem cpy (hexec : p.tables.exec = Jvm.exec) (hb : c.code = cc) (hml : c.maxLocals = ls.size) {own : String} {index : Nat} (hown : s.vm.findClass own = some m.cls) (hlink : (Cond.methodLink own index arraycopyName).before args s = true) (hnat : (Cond.native arraycopyName).before args s = true) (hstat : (Cond.static arraycopyName).before args s = true) (hini : (Cond.initialized "java/lang/System").before args s = true)
    (hK : va_K D cl tys s) (hP : va_P D cl ws H) (hD : va_D A ws) (hS : va_S A H0 H locs) (q0 q1 t0 t1 : Nat) {a0 : Nat} {c0 c1 : ClassId} {n0 n1 : Nat} {f g v : Nat → Int32} (ha0 : ws[q0]? = some (a0, .inl (c0, n0, .inl f))) (ha1 : ws[q1]? = some (a, .inl (c1, n1, .inl g))) (ht0 : tys[t0]? = some (c0, .int)) (ht1 : tys[t1]? = some (c1, .int)) (sp dp n : Nat) (hv : v = va_cpy f g sp dp n) (hin : (Int32.ofNat sp).toNatClampNeg = sp ∧ (Int32.ofNat dp).toNatClampNeg = dp ∧ (Int32.ofNat n).toNatClampNeg = n ∧ ¬ Int32.ofNat sp < 0 ∧ ¬ Int32.ofNat dp < 0 ∧ ¬ Int32.ofNat n < 0 ∧ sp + n ≤ n0 ∧ dp + n ≤ n1) (hframes : 1 ≤ R.frames) (hlocals : (rest.map fun v => v.category).sum + (nativeFrameWords "java/lang/System" "arraycopy" 5 + 11) ≤ R.locals) (hdg : decode cc pc = .ok (.invokestatic index, 3)) {wn : va_W} (hw : ws.set q1 (a, .inl (c1, n1, .inl v)) = wn)
    (kk : ∀ (H1 : Heap) (locs1 : List Loc), va_P D cl wn H1 → va_D A wn → va_S A H0 H1 locs1 → W p l e R s m args below meth c H1 locs1 cells slots Q (F0 m (pc + 3) ls rest)) : W p l e R s m args below meth c H locs cells slots Q (F0 m pc ls (.int (Int32.ofNat n) :: .int (Int32.ofNat dp) :: .ref a :: .int (Int32.ofNat sp) :: .ref a0 :: rest)) := by
  subst hw; subst hv
  obtain ⟨e1, e2, e3, h1, h2, h3, h4, h5⟩ := hin
  refine va_copyi hexec hb hml hown hlink hnat hstat hini hK hP hD hS q0 q1 t0 t1 ha0 ha1 ht0 ht1 rfl h1 h2 h3 (by rw [e1, e3]; exact h4) (by rw [e2, e3]; exact h5) (fun _ _ => rfl) hframes hlocals hdg ?_
  rw [e1, e2, e3]
  exact kk
/-- a field is written -/
theorem pf (hexec : p.tables.exec = Jvm.exec) (hb : c.code = cc) {own ref C : String} {T : u_T} {N ci index : Nat} {Ts : List Cond} (hts : ∀ w ∈ Ts, w.before args s = true) (hin : ∀ w ∈ u_ws C T N, w ∈ Ts) (ty0 : Nat → FieldType) (hty : ∀ k, k < N → parseFieldDescriptor (T k).2.2.1 = some (ty0 k)) (hnm : ∀ a, a < N → ∀ b, b < N → a ≠ b → (T a).2.1 ≠ (T b).2.1) (hown : s.vm.findClass own = some m.cls) (hK : va_K D cl tys s) (hP : va_P D cl ws H) (hD : va_D A ws) (hS0 : va_S A H0 H locs) (q0 : Nat) {fs : List Value} (he : ws[q0]? = some (a, .inr (ci, fs))) (hc : cl[ci]? = some (C, T, N)) (k : Nat) (hk : k < N) (hlink : (Cond.fieldLink own index ref (T k).2.1 (T k).2.2.1).before args s = true) (hsame : ∀ x, s.fieldFound? (T k).1 (T k).2.1 (T k).2.2.1 = some x → s.fieldFound? ref (T k).2.1 (T k).2.2.1 = some x) (hfin : (T k).2.2.2 = false) {ty : FieldType} {v : Value} (hd : parseFieldDescriptor (T k).2.2.1 = some ty) (hn : narrow ty v = v) (hfit : fits ty v = true) (hl : k < fs.length) (hdg : decode cc pc = .ok (.putfield index, 3)) {wn : va_W} (hw : ws.set q0 (a, .inr (ci, fs.set k v)) = wn)
    (kk : ∀ (H1 : Heap) (locs1 : List Loc), va_P D cl wn H1 → va_D A wn → va_S A H0 H1 locs1 → W p l e R s m args below meth c H1 locs1 cells slots Q (F0 m (pc + 3) ls rest)) : W p l e R s m args below meth c H locs cells slots Q (F0 m pc ls (v :: .ref a :: rest)) := by
  subst hw
  exact va_put hexec hb hts hin ty0 hty hnm hown hK hP hD hS0 q0 he hc k hk hlink hsame hfin hd hn hfit hl hdg kk
end BASE2
/-! the static array of partitions: nobody writes it -/
def PT (j : Nat) : Int32 := ([0, 3, 32, 34, 35, 256, 257, 259, 272, 273, 275, 288, 289, 290, 291] : List Int32).getD j 0
abbrev sT (A : Nat → Prop) (t : Nat) (U : State) : Prop := va_Z "AlgebraLaws$Congruences" "PARTITIONS" "[I" (.ref t) A U U.heap ∧ va_T .int t 15 (fun j => .int (PT j)) A U U.heap
abbrev pWS (D : va_G) (y : ClassId × ClassId × ClassId × ClassId) (av : List Value) (ws : va_W) (sz : Nat) (A : Nat → Prop) (t : Nat) : Array Value → State → Prop := va_Pc av (fun U => U.heap.size = sz ∧ va_P D vwCl ws U.heap ∧ va_K D vwCl (tyS y) U ∧ va_D (fun _ => True) ws ∧ sT A t U)
theorem fb_WS {D : va_G} {y : ClassId × ClassId × ClassId × ClassId} {av : List Value} {ws : va_W} {sz : Nat} {A : Nat → Prop} {t : Nat} : FrameBlind (pWS D y av ws sz A t) := fun a U g mk q => by
  obtain ⟨q0, q1, qP, qK, qD, qZ, qT⟩ := q
  exact ⟨q0, q1, qP, va_K.moved (u := U) (U := U.calling g mk a) (Vm.Alike.refl U.vm) qK, qD, va_Z.moved (u := U) (U := U.calling g mk a) (Vm.Alike.refl U.vm) qZ, va_T.moved (u := U) (U := U.calling g mk a) (Vm.Alike.refl U.vm) qT⟩
section BASE3
variable {p : Program} {l : Launch} {e : Env} {R : Room} {s : State} {m : MethodId} {args : Array Value} {below : List Frame} {meth : Method} {c : Code} {H : Heap} {locs : List Loc} {cells slots : Nat} {Q : State → Prop}
variable {pc : Nat} {ls : Array Slot} {rest st0 : List Value} {D : va_G} {y4 : ClassId × ClassId × ClassId × ClassId} {cc : ByteArray} {ws wc : va_W}
variable {y : MethodName} {bytes : ByteArray} {maxL nL n index : Nat} {ret : Option FieldType} {w0 : List Cond} {rm : Room} {Ts : List Cond} {own C : String} {b : Addr} {As : List Value} {Qc : Array Value → State → Outcome → State → Prop} {A : Nat → Prop} {free : Addr → Prop}
theorem sT_call {B : Nat → Prop} {t : Nat} (h : sT A t s) (hS : va_S A s.heap H locs) (hB : ∀ q, B q → A q) {U : State} (hU : U.heap = H) (hW : s.vm.Alike U.vm) : sT B t U := by
  obtain ⟨h1, h2⟩ := h
  have k1 := (h1.kept (H1 := H) (fun a ha hn => hS.2.1 a ha hn)).moved (U := U) hW
  have k2 := (h2.kept (H1 := H) (fun a ha hn => hS.2.1 a ha hn)).moved (U := U) hW
  rw [← hU] at k1 k2
  exact ⟨k1.narrow hB, k2.narrow hB⟩
/-- a virtual call of a method that writes, and that reads the static array -/
theorem wvS {t : Nat} (hT : sT A t s) (hS : va_S A s.heap H locs) (hA : ∀ q, s.heap.size ≤ q → A q) (S : CallFix p m c cc nL s args Ts own) (hM : Met l y w0 rm (pWS D y4 (.ref b :: As) wc H.size (va_A wc H.size) t) Qc 0 0 free) (cw : CallW R s args own C index y bytes maxL ret w0 rm 0 0 n) (hK : va_K D vwCl (tyS y4) s) (hP : va_P D vwCl ws H) (hD : va_D A ws) (isC : List Nat) (hnd : va_nd isC = true) (hC : isC.map (fun i => ws[i]?) = wc.map some) (hC2 : isC.filterMap (fun i => ws[i]?) = wc) (q0 ci : Nat) {fs : List Value} {q : vw_C} (hc : vwCl[ci]? = some q) (he : ws[q0]? = some (b, .inr (ci, fs))) (hq : q.1 = C)
    (hn : As.length = n) (hl : ls.size = nL) (hst : st0 = As.reverse ++ .ref b :: rest) (hr : (rest.map fun v => v.category).sum ≤ 8) (hdg : decode cc pc = .ok (.invokevirtual index, 3)) (hf : cells ≤ R.cells ∧ slots ≤ R.slots) : va_Run p l e R s m args below meth c H locs cells slots 0 0 (F0 m pc ls st0) rest (Qc (Value.ref b :: As).toArray) free := by
  have hPc := hP.sub isC hC2
  have hDc := hD.sub isC hnd hC
  have hFc := va_free (wc := wc) hD hS hA isC hC
  subst hq
  exact va_runV (As := As) (rest := rest) S hM cw ⟨fb_WS, va_recv hK hP hc he, fun U hU hW => ⟨rfl, by rw [hU], by rw [hU]; exact hPc, va_K.moved hW.alike hK, hDc.weaken (fun _ _ _ _ => trivial), sT_call hT hS hFc hU hW.alike⟩⟩ rfl hn hl hst (lv_room hr) hdg hf
/-- a place of it is read -/
theorem xt {t : Nat} {v i : Int32} (hexec : p.tables.exec = Jvm.exec) (hb : c.code = cc) (hT : sT A t s) (hS : va_S A s.heap H locs) (hv : v = PT i.toNatClampNeg) (hin : vp_in i 15) (hdg : decode cc pc = .ok (.iaload, 1))
    (kk : W p l e R s m args below meth c H locs cells slots Q (F0 m (pc + 1) ls (.int v :: rest))) : W p l e R s m args below meth c H locs cells slots Q (F0 m pc ls (.int i :: .ref t :: rest)) := va_ti hexec hb hT.2 hS hin (congrArg Value.int hv.symm) hdg kk
theorem zf {v : Int32} (h : v = 0 ∨ v = 1) : fits .boolean (.int v) = true := by
  rcases h with rfl | rfl <;> rfl
end BASE3
