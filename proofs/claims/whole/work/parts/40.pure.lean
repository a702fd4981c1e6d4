/-! loops of the models -/
theorem lp_succ {σ ρ : Type} {step : σ → Option (σ ⊕ ρ)} {n : Nat} {s s' : σ} (h : step s = some (.inl s')) : lp step (n + 1) s = lp step n s' := by
  simp only [lp, h, Option.bind_some, Sum.elim_inl]
theorem lp_exit {σ ρ : Type} {step : σ → Option (σ ⊕ ρ)} {n : Nat} {s : σ} {r : ρ} (h : step s = some (.inr r)) : lp step (n + 1) s = some r := by
  simp only [lp, h, Option.bind_some, Sum.elim_inr]
/-- the state is known at every turn: S 0, S 1, .. S e, and there it ends -/
theorem lp_seq {σ ρ : Type} {step : σ → Option (σ ⊕ ρ)} (S : Nat → σ) (e : Nat) {r : ρ} (hs : ∀ k, k < e → step (S k) = some (.inl (S (k + 1)))) (hx : step (S e) = some (.inr r)) : ∀ N, e < N → lp step N (S 0) = some r := by
  have key : ∀ d k N, k + d = e → d < N → lp step N (S k) = some r := by
    intro d
    induction d with
    | zero =>
      intro k N hk hN
      obtain ⟨N, rfl⟩ : ∃ M, N = M + 1 := ⟨N - 1, by omega⟩
      have : k = e := by omega
      subst this
      exact lp_exit hx
    | succ d ih =>
      intro k N hk hN
      obtain ⟨N, rfl⟩ : ∃ M, N = M + 1 := ⟨N - 1, by omega⟩
      rw [lp_succ (hs k (by omega))]
      exact ih (k + 1) N (by omega) (by omega)
  intro N hN
  exact key e 0 N (by omega) hN
/-- by an invariant and a measure -/
theorem lp_inv {σ ρ : Type} {step : σ → Option (σ ⊕ ρ)} (I : σ → Prop) (μ : σ → Nat) (P : ρ → Prop) (hs : ∀ s, I s → (∃ s', step s = some (.inl s') ∧ I s' ∧ μ s' < μ s) ∨ (∃ r, step s = some (.inr r) ∧ P r)) : ∀ N s, I s → μ s < N → ∃ r, lp step N s = some r ∧ P r := by
  intro N
  induction N with
  | zero => intro s _ h; omega
  | succ N ih =>
    intro s hI hN
    rcases hs s hI with ⟨s', h1, h2, h3⟩ | ⟨r, h1, h2⟩
    · obtain ⟨r, hr, hp⟩ := ih s' h2 (by omega)
      exact ⟨r, by rw [lp_succ h1]; exact hr, hp⟩
    · exact ⟨r, lp_exit h1, h2⟩
theorem rd_eq {α ρ : Type} {n : Nat} {f : Nat → α} {i : Int32} {k : α → Option ρ} {j : Nat} (hi : i = nI j) (hj : j < n) (hn : n < 2 ^ 31) : rd n f i k = k (f j) := by
  subst hi
  have h : ¬ (nI j < 0 ∨ n ≤ (nI j).toNatClampNeg) := nI_in hj hn
  rw [rd, if_neg h, nI_clamp (by omega)]
theorem wrI_eq {ρ : Type} {n : Nat} {f : Nat → Int32} {i x : Int32} {k : (Nat → Int32) → Option ρ} {j : Nat} (hi : i = nI j) (hj : j < n) (hn : n < 2 ^ 31) : wrI n f i x k = k (upd f j x) := by
  subst hi
  have h : ¬ (nI j < 0 ∨ n ≤ (nI j).toNatClampNeg) := nI_in hj hn
  rw [wrI, if_neg h, nI_clamp (by omega)]
theorem wrL_eq {ρ : Type} {n : Nat} {f : Nat → Int64} {i : Int32} {x : Int64} {k : (Nat → Int64) → Option ρ} {j : Nat} (hi : i = nI j) (hj : j < n) (hn : n < 2 ^ 31) : wrL n f i x k = k (vp_updL f j x) := by
  subst hi
  have h : ¬ (nI j < 0 ∨ n ≤ (nI j).toNatClampNeg) := nI_in hj hn
  rw [wrL, if_neg h, nI_clamp (by omega)]
theorem sat_eq {ρ : Type} {m : Option ρ} {r : ρ} (h : m = some r) {K : ρ → Prop} (hk : K r) : sat m K := ⟨r, h, hk⟩
