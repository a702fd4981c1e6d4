/-! making: rows and calls of the constructors -/
section BASE4
variable {p : Program} {l : Launch} {e : Env} {R : Room} {s : State} {m : MethodId} {args : Array Value} {below : List Frame} {meth : Method} {c : Code} {H : Heap} {locs : List Loc} {cells slots : Nat} {Q : State → Prop}
variable {pc : Nat} {ls : Array Slot} {rest st0 : List Value} {D : va_G} {y4 : ClassId × ClassId × ClassId × ClassId} {cc : ByteArray} {ws wc : va_W} {A : Nat → Prop} {H0 : Heap} {a : Nat}
theorem nai (hexec : p.tables.exec = Jvm.exec) (hb : c.code = cc) (harr : (Cond.arrayClass .int).before args s = true) (hK : va_K D vwCl (tyS y4) s) (hP : va_P D vwCl ws H) (hD : va_D A ws) (hS : va_S A H0 H locs) (hA : ∀ q, H0.size ≤ q → A q) (N : Nat) {n : Int32} (hn : ¬ n < 0 ∧ n.toNatClampNeg = N ∧ N * componentBytes .int ≤ 536870912) (hcells : cells + 1 ≤ R.cells) (hslots : slots + N ≤ R.slots) (hdg : decode cc pc = .ok (.newarray .int, 2)) {k1 k2 : Nat} (e1 : cells + 1 = k1) (e2 : slots + N = k2)
    (kk : ∀ (q : Nat) (H1 : Heap), va_P D vwCl (ws ++ [(q, .inl (y4.1, N, .inl (fun _ => 0)))]) H1 → va_D A (ws ++ [(q, .inl (y4.1, N, .inl (fun _ => 0)))]) → va_S A H0 H1 locs → W p l e R s m args below meth c H1 locs k1 k2 Q (F0 m (pc + 2) ls (.ref q :: rest))) : W p l e R s m args below meth c H locs cells slots Q (F0 m pc ls (.int n :: rest)) := by
  subst e1; subst e2
  refine va_newa (atype := .int) (a0 := (N, .inl (fun _ => 0))) hexec hb harr rfl hK hP hD hS hA (fun cA => rfl) hn.1 hn.2.1 hn.2.2 hcells hslots hdg (fun q cA H1 hK1 hP1 hD1 hS1 => ?_)
  have z : cA = y4.1 := by
    have z1 := (hK1.2 4 (cA, .int) rfl).2
    have z2 := (hK.2 0 (y4.1, .int) rfl).2
    exact Option.some.inj ((show _ = some cA from z1).symm.trans (show _ = some y4.1 from z2))
  subst z
  exact kk q H1 hP1 hD1 hS1
theorem nal (hexec : p.tables.exec = Jvm.exec) (hb : c.code = cc) (harr : (Cond.arrayClass .long).before args s = true) (hK : va_K D vwCl (tyS y4) s) (hP : va_P D vwCl ws H) (hD : va_D A ws) (hS : va_S A H0 H locs) (hA : ∀ q, H0.size ≤ q → A q) (N : Nat) {n : Int32} (hn : ¬ n < 0 ∧ n.toNatClampNeg = N ∧ N * componentBytes .long ≤ 536870912) (hcells : cells + 1 ≤ R.cells) (hslots : slots + N ≤ R.slots) (hdg : decode cc pc = .ok (.newarray .long, 2)) {k1 k2 : Nat} (e1 : cells + 1 = k1) (e2 : slots + N = k2)
    (kk : ∀ (q : Nat) (H1 : Heap), va_P D vwCl (ws ++ [(q, .inl (y4.2.1, N, .inr (.inl (fun _ => 0))))]) H1 → va_D A (ws ++ [(q, .inl (y4.2.1, N, .inr (.inl (fun _ => 0))))]) → va_S A H0 H1 locs → W p l e R s m args below meth c H1 locs k1 k2 Q (F0 m (pc + 2) ls (.ref q :: rest))) : W p l e R s m args below meth c H locs cells slots Q (F0 m pc ls (.int n :: rest)) := by
  subst e1; subst e2
  refine va_newa (atype := .long) (a0 := (N, .inr (.inl (fun _ => 0)))) hexec hb harr rfl hK hP hD hS hA (fun cA => rfl) hn.1 hn.2.1 hn.2.2 hcells hslots hdg (fun q cA H1 hK1 hP1 hD1 hS1 => ?_)
  have z : cA = y4.2.1 := by
    have z1 := (hK1.2 4 (cA, .long) rfl).2
    have z2 := (hK.2 1 (y4.2.1, .long) rfl).2
    exact Option.some.inj ((show _ = some cA from z1).symm.trans (show _ = some y4.2.1 from z2))
  subst z
  exact kk q H1 hP1 hD1 hS1
theorem naz (hexec : p.tables.exec = Jvm.exec) (hb : c.code = cc) (harr : (Cond.arrayClass .boolean).before args s = true) (hK : va_K D vwCl (tyS y4) s) (hP : va_P D vwCl ws H) (hD : va_D A ws) (hS : va_S A H0 H locs) (hA : ∀ q, H0.size ≤ q → A q) (N : Nat) {n : Int32} (hn : ¬ n < 0 ∧ n.toNatClampNeg = N ∧ N * componentBytes .boolean ≤ 536870912) (hcells : cells + 1 ≤ R.cells) (hslots : slots + N ≤ R.slots) (hdg : decode cc pc = .ok (.newarray .boolean, 2)) {k1 k2 : Nat} (e1 : cells + 1 = k1) (e2 : slots + N = k2)
    (kk : ∀ (q : Nat) (H1 : Heap), va_P D vwCl (ws ++ [(q, .inl (y4.2.2.1, N, .inl (fun _ => 0)))]) H1 → va_D A (ws ++ [(q, .inl (y4.2.2.1, N, .inl (fun _ => 0)))]) → va_S A H0 H1 locs → W p l e R s m args below meth c H1 locs k1 k2 Q (F0 m (pc + 2) ls (.ref q :: rest))) : W p l e R s m args below meth c H locs cells slots Q (F0 m pc ls (.int n :: rest)) := by
  subst e1; subst e2
  refine va_newa (atype := .boolean) (a0 := (N, .inl (fun _ => 0))) hexec hb harr rfl hK hP hD hS hA (fun cA => rfl) hn.1 hn.2.1 hn.2.2 hcells hslots hdg (fun q cA H1 hK1 hP1 hD1 hS1 => ?_)
  have z : cA = y4.2.2.1 := by
    have z1 := (hK1.2 4 (cA, .boolean) rfl).2
    have z2 := (hK.2 2 (y4.2.2.1, .boolean) rfl).2
    exact Option.some.inj ((show _ = some cA from z1).symm.trans (show _ = some y4.2.2.1 from z2))
  subst z
  exact kk q H1 hP1 hD1 hS1
theorem naq (hexec : p.tables.exec = Jvm.exec) (hb : c.code = cc) {own : String} {index : Nat} (hown : s.vm.findClass own = some m.cls) (hcl : (Cond.classLink own index "AlgebraLaws$Tables").before args s = true) (hover : va_AO "AlgebraLaws$Tables" s) (hK : va_K D vwCl (tyS y4) s) (hP : va_P D vwCl ws H) (hD : va_D A ws) (hS : va_S A H0 H locs) (hA : ∀ q, H0.size ≤ q → A q) (N : Nat) {n : Int32} (hn : ¬ n < 0 ∧ n.toNatClampNeg = N ∧ N * 4 ≤ 536870912) (hcells : cells + 1 ≤ R.cells) (hslots : slots + N ≤ R.slots) (hdg : decode cc pc = .ok (.anewarray index, 3)) {k1 k2 : Nat} (e1 : cells + 1 = k1) (e2 : slots + N = k2)
    (kk : ∀ (q : Nat) (H1 : Heap), va_P D vwCl (ws ++ [(q, .inl (y4.2.2.2, N, .inr (.inr (.inr (.inr (fun _ => none))))))]) H1 → va_D A (ws ++ [(q, .inl (y4.2.2.2, N, .inr (.inr (.inr (.inr (fun _ => none))))))]) → va_S A H0 H1 locs → W p l e R s m args below meth c H1 locs k1 k2 Q (F0 m (pc + 3) ls (.ref q :: rest))) : W p l e R s m args below meth c H locs cells slots Q (F0 m pc ls (.int n :: rest)) := by
  subst e1; subst e2
  refine va_newq hexec hb hown hcl hover hK hP hD hS hA hn.1 hn.2.1 hn.2.2 hcells hslots hdg (fun q cA H1 hK1 hP1 hD1 hS1 => ?_)
  have z : cA = y4.2.2.2 := by
    obtain ⟨_, _, _, _, _, z1⟩ := (hK1.2 4 (cA, .object "AlgebraLaws$Tables") rfl).2
    obtain ⟨_, _, _, _, _, z2⟩ := (hK.2 3 (y4.2.2.2, .object "AlgebraLaws$Tables") rfl).2
    exact Option.some.inj (z1.symm.trans z2)
  subst z
  exact kk q H1 hP1 hD1 hS1
end BASE4
abbrev pX (D : va_G) (y : ClassId × ClassId × ClassId × ClassId) (av : List Value) (ws : va_W) (sz : Nat) (E : State → Prop) : Array Value → State → Prop := va_Pc av (fun U => U.heap.size = sz ∧ va_P D vwCl ws U.heap ∧ va_K D vwCl (tyS y) U ∧ va_D (fun _ => True) ws ∧ E U)
/-- what a start says stays in a frame more -/
def eB (E : State → Prop) : Prop := ∀ (a : Array Value) (U : State) (g : JFrame) (mk : MethodId), E U → E (U.calling g mk a)
theorem eB_T : eB (fun _ => True) := fun _ _ _ _ h => h
theorem eB_N {w : Cond} (hw : w.onTables = true) : eB (va_Nw w) := fun _ U g mk h => va_Nw.same (u := U) hw rfl h
theorem eB_A {C : String} : eB (va_AO C) := fun a U g mk h => va_AO.moved (u := U) (U := U.calling g mk a) (Vm.Alike.refl U.vm) h
theorem eB_S {A : Nat → Prop} {t : Nat} : eB (sT A t) := fun a U g mk h => ⟨va_Z.moved (u := U) (U := U.calling g mk a) (Vm.Alike.refl U.vm) h.1, va_T.moved (u := U) (U := U.calling g mk a) (Vm.Alike.refl U.vm) h.2⟩
theorem eB_and {E F : State → Prop} (h1 : eB E) (h2 : eB F) : eB (fun U => E U ∧ F U) := fun a U g mk h => ⟨h1 a U g mk h.1, h2 a U g mk h.2⟩
theorem fb_X {D : va_G} {y : ClassId × ClassId × ClassId × ClassId} {av : List Value} {ws : va_W} {sz : Nat} {E : State → Prop} (hE : eB E) : FrameBlind (pX D y av ws sz E) := fun a U g mk q => by
  obtain ⟨q0, q1, qP, qK, qD, qE⟩ := q
  exact ⟨q0, q1, qP, va_K.moved (u := U) (U := U.calling g mk a) (Vm.Alike.refl U.vm) qK, qD, hE a U g mk qE⟩
section BASE5
variable {p : Program} {l : Launch} {e : Env} {R : Room} {s : State} {m : MethodId} {args : Array Value} {below : List Frame} {meth : Method} {c : Code} {H : Heap} {locs : List Loc} {cells slots : Nat} {Q : State → Prop}
variable {pc : Nat} {ls : Array Slot} {rest st0 : List Value} {D : va_G} {y4 : ClassId × ClassId × ClassId × ClassId} {cc : ByteArray} {ws wc : va_W} {A : Nat → Prop} {H0 : Heap}
variable {y : MethodName} {bytes : ByteArray} {maxL nL index mc ms : Nat} {w0 : List Cond} {rm : Room} {Ts : List Cond} {own host : String} {b : Addr} {Qc : Array Value → State → Outcome → State → Prop} {free : Addr → Prop} {E : State → Prop}
theorem iN (hE : eB E) (hEU : ∀ U : State, U.heap = H → s.WarmedH U.vm → E U) (S : CallFix p m c cc nL s args Ts own) (hM : Met l y w0 rm (pX D y4 [.ref b] wc H.size E) Qc mc ms free) (cw : va_CN R s args own index y host bytes maxL none w0 rm mc ms 0 ∧ y.name = "<init>" ∧ (Cond.instanceMethod y).before args s = true) (hK : va_K D vwCl (tyS y4) s) (hP : va_P D vwCl ws H) (hD : va_D A ws) (isC : List Nat) (hnd : va_nd isC = true) (hC : isC.map (fun i => ws[i]?) = wc.map some) (hC2 : isC.filterMap (fun i => ws[i]?) = wc)
    (hl : ls.size = nL) (hst : st0 = .ref b :: rest) (hr : (rest.map fun v => v.category).sum ≤ 8) (hdg : decode cc pc = .ok (.invokespecial index, 3)) (hf : cells + mc ≤ R.cells ∧ slots + ms ≤ R.slots) : va_Run p l e R s m args below meth c H locs cells slots mc ms (F0 m pc ls st0) rest (Qc (Value.ref b :: []).toArray) free := by
  have hPc := hP.sub isC hC2
  have hDc := hD.sub isC hnd hC
  exact va_runIN (As := []) (rest := rest) S hM cw ⟨fb_X hE, fun U hU hW => ⟨rfl, by rw [hU], by rw [hU]; exact hPc, va_K.moved hW.alike hK, hDc.weaken (fun _ _ _ _ => trivial), hEU U hU hW⟩⟩ rfl rfl hl hst (lv_room hr) hdg hf
theorem iP (hE : eB E) (hEU : ∀ U : State, U.heap = H → s.WarmedH U.vm → E U) (S : CallFix p m c cc nL s args Ts own) (hM : Met l y w0 rm (pX D y4 [.ref b] wc H.size E) Qc mc ms free) (cw : CallB R s args own index y bytes maxL none w0 rm mc ms 0 ∧ y.name = "<init>" ∧ (Cond.instanceMethod y).before args s = true) (hK : va_K D vwCl (tyS y4) s) (hP : va_P D vwCl ws H) (hD : va_D A ws) (isC : List Nat) (hnd : va_nd isC = true) (hC : isC.map (fun i => ws[i]?) = wc.map some) (hC2 : isC.filterMap (fun i => ws[i]?) = wc)
    (hl : ls.size = nL) (hst : st0 = .ref b :: rest) (hr : (rest.map fun v => v.category).sum ≤ 8) (hdg : decode cc pc = .ok (.invokespecial index, 3)) (hf : cells + mc ≤ R.cells ∧ slots + ms ≤ R.slots) : va_Run p l e R s m args below meth c H locs cells slots mc ms (F0 m pc ls st0) rest (Qc (Value.ref b :: []).toArray) free := by
  have hPc := hP.sub isC hC2
  have hDc := hD.sub isC hnd hC
  exact va_runI (As := []) (rest := rest) S hM cw ⟨fb_X hE, fun U hU hW => ⟨rfl, by rw [hU], by rw [hU]; exact hPc, va_K.moved hW.alike hK, hDc.weaken (fun _ _ _ _ => trivial), hEU U hU hW⟩⟩ rfl rfl hl hst (lv_room hr) hdg hf
/-- behind a constructor -/
theorem cI {S : Type} {K : S → Prop} {w1 : S → va_W} {a : Array Value} (hr : va_Run p l e R s m args below meth c H locs cells slots mc ms (F0 m pc ls st0) rest (va_Qv K (bW D y4 (va_A wc H.size) w1) (va_A wc H.size) a) (va_A wc H.size)) (hS : va_S A H0 H locs) (hP : va_P D vwCl ws H) (hD : va_D A ws) (hA : ∀ q, H0.size ≤ q → A q) (isC isR : List Nat) {wr : va_W} (hC : isC.map (fun i => ws[i]?) = wc.map some) (hR : isR.map (fun i => ws[i]?) = wr.map some) (hn : va_nd isR = true) (hdis : ∀ i ∈ isR, i ∉ isC) {k1 k2 : Nat} (e1 : cells + mc = k1) (e2 : slots + ms = k2)
    (kk : ∀ (u : S) (H1 : Heap) (locs1 : List Loc), K u → va_P D vwCl (wr ++ w1 u) H1 → va_D A (wr ++ w1 u) → va_S A H0 H1 locs1 → W p l e R s m args below meth c H1 locs1 k1 k2 Q (F0 m (pc + 3) ls rest)) : W p l e R s m args below meth c H locs cells slots Q (F0 m pc ls st0) := by
  subst e1; subst e2
  have hFc := va_free (wc := wc) hD hS hA isC hC
  refine va_callv hr hS (fun q _ h => hFc q h) hFc (fun u t H1 locs1 ht hvm hw hB hz1 hk1 hS1 => ?_)
  obtain ⟨hP1, hK1, hD1⟩ := hB
  rw [ht] at hP1
  obtain ⟨hP2, hD2⟩ := va_join (wr := wr) (w1 := w1 u) hP hD isC isR hC hR hn hdis hk1 hFc hP1 hD1
  exact kk u H1 locs1 hw hP2 hD2 hS1
end BASE5
