/-! ===== changes of one thing ===== -/
theorem RW.cong {B B' : Nat} {M M' : Mem} {w w' : Nat} {f : Row} (h : RW B M w f) (hB : B ≤ B') (hM : ∀ r i k, r ≠ 17 → r < 18 → M' r w' i k = M r w i k) : RW B' M' w' f := by
  have g := h.c
  refine ⟨g.cong (fun k hk => hM _ _ _ (by omega) (by omega)) (fun _ _ => rfl), fun t ht => (h.t t ht).cong hB (fun k _ => hM _ _ _ (by omega) (by omega)) (fun _ _ _ => rfl), h.r.cong g.b1 (fun k _ => hM _ _ _ (by omega) (by omega)) (Nat.le_refl _) rfl (fun _ _ _ => rfl), fun c hc => (h.p c hc).cong hB (fun k _ _ _ => hM _ _ _ (by omega) (by omega)) (fun k _ => hM _ _ _ (by omega) (by omega)) (Nat.le_refl _) (fun _ _ _ => rfl), h.f.cong g.b3 (fun c _ => ⟨hM _ _ _ (by omega) (by omega), hM _ _ _ (by omega) (by omega)⟩) rfl rfl (fun _ _ _ => rfl), fun l hl => (h.l l hl).cong (fun k _ => hM _ _ _ (by omega) (by omega)) (Nat.le_refl _) (Nat.le_refl _) (fun _ _ _ => rfl), fun s hs => (h.s s hs).cong (fun k _ => hM _ _ _ (by omega) (by omega)) (fun k _ => hM _ _ _ (by omega) (by omega)) (fun _ _ _ => rfl), fun b hb => (h.b b hb).cong hB (fun k _ => hM _ _ _ (by omega) (by omega)) (Nat.le_refl _) (Nat.le_refl _) (Nat.le_refl _) (fun _ _ _ => rfl), h.w.cong g.b2 (fun c _ k _ => hM _ _ _ (by omega) (by omega)) rfl (fun _ _ _ => rfl), h.a.cong g.b7 (fun k _ => hM _ _ _ (by omega) (by omega)) rfl (fun _ _ _ => rfl), h.q.cong g.b8 (fun k _ => hM _ _ _ (by omega) (by omega)) rfl (fun _ _ _ => rfl)⟩
theorem RW.townAt {B B' : Nat} {M M' : Mem} {w : Nat} {f f' : Row} {t : Nat} (h : RW B M w f) (hB : B ≤ B') (hM : ∀ r i k, r ≠ 17 → r < 18 → ¬ (r = 3 ∧ i = t) → M' r w i k = M r w i k) (hf : ∀ k, (k < 20 + 4 * t ∨ 24 + 4 * t ≤ k) → f' k = f k) (ht : t < 8) (X1 : XT1 B' M' w f' t) : RW B' M' w f' := by
  have g := h.c
  have b0 := g.b0
  have b1 := g.b1
  have b2 := g.b2
  have b3 := g.b3
  have b4 := g.b4
  have b5 := g.b5
  have b6 := g.b6
  have b7 := g.b7
  have b8 := g.b8
  have e0 : f' 0 = f 0 := hf 0 (by omega)
  have c0 : cn f' 0 = cn f 0 := cn_same e0
  have e1 : f' 1 = f 1 := hf 1 (by omega)
  have c1 : cn f' 1 = cn f 1 := cn_same e1
  have e2 : f' 2 = f 2 := hf 2 (by omega)
  have c2 : cn f' 2 = cn f 2 := cn_same e2
  have e3 : f' 3 = f 3 := hf 3 (by omega)
  have c3 : cn f' 3 = cn f 3 := cn_same e3
  have e4 : f' 4 = f 4 := hf 4 (by omega)
  have c4 : cn f' 4 = cn f 4 := cn_same e4
  have e5 : f' 5 = f 5 := hf 5 (by omega)
  have c5 : cn f' 5 = cn f 5 := cn_same e5
  have e6 : f' 6 = f 6 := hf 6 (by omega)
  have c6 : cn f' 6 = cn f 6 := cn_same e6
  have e7 : f' 7 = f 7 := hf 7 (by omega)
  have c7 : cn f' 7 = cn f 7 := cn_same e7
  have e8 : f' 8 = f 8 := hf 8 (by omega)
  have c8 : cn f' 8 = cn f 8 := cn_same e8
  refine ⟨?_, ?_, ?_, ?_, ?_, ?_, ?_, ?_, ?_, ?_, ?_⟩
  · exact g.cong (fun k hk => hM _ _ _ (by omega) (by omega) (by omega)) (fun k hk => hf k (by omega))
  · intro x hx
    by_cases e : x = t
    · subst e
      exact X1
    · rw [c0] at hx
      exact (h.t x hx).cong hB (fun k _ => hM _ _ _ (by omega) (by omega) (by omega)) (fun k h1 h2 => hf k (by omega))
  · exact h.r.cong b1 (fun k _ => hM _ _ _ (by omega) (by omega) (by omega)) (by omega) e1 (fun k h1 h2 => hf k (by omega))
  · intro x hx
    rw [c2] at hx
    exact (h.p x hx).cong hB (fun k _ _ _ => hM _ _ _ (by omega) (by omega) (by omega)) (fun k _ => hM _ _ _ (by omega) (by omega) (by omega)) (by omega) (fun k h1 h2 => hf k (by omega))
  · exact h.f.cong b3 (fun c _ => ⟨hM _ _ _ (by omega) (by omega) (by omega), hM _ _ _ (by omega) (by omega) (by omega)⟩) e2 e3 (fun k h1 h2 => hf k (by omega))
  · intro x hx
    rw [c3] at hx
    exact (h.l x hx).cong (fun k _ => hM _ _ _ (by omega) (by omega) (by omega)) (by omega) (by omega) (fun k h1 h2 => hf k (by omega))
  · intro x hx
    rw [c4] at hx
    exact (h.s x hx).cong (fun k _ => hM _ _ _ (by omega) (by omega) (by omega)) (fun k _ => hM _ _ _ (by omega) (by omega) (by omega)) (fun k h1 h2 => hf k (by omega))
  · intro x hx
    rw [c5] at hx
    exact (h.b x hx).cong hB (fun k _ => hM _ _ _ (by omega) (by omega) (by omega)) (by omega) (by omega) (by omega) (fun k h1 h2 => hf k (by omega))
  · exact h.w.cong b2 (fun c _ k _ => hM _ _ _ (by omega) (by omega) (by omega)) e2 (fun k h1 h2 => hf k (by omega))
  · exact h.a.cong b7 (fun k _ => hM _ _ _ (by omega) (by omega) (by omega)) e7 (fun k h1 h2 => hf k (by omega))
  · exact h.q.cong b8 (fun k _ => hM _ _ _ (by omega) (by omega) (by omega)) e8 (fun k h1 h2 => hf k (by omega))
theorem RW.compAt {B B' : Nat} {M M' : Mem} {w : Nat} {f f' : Row} {c : Nat} (h : RW B M w f) (hB : B ≤ B') (hM : ∀ r i k, r ≠ 17 → r < 18 → ¬ ((r = 6 ∧ i = c ∧ k ≠ 6 ∧ k ≠ 7) ∨ (r = 7 ∧ i = c)) → M' r w i k = M r w i k) (hf : ∀ k, (k < 100 + 24 * c ∨ 124 + 24 * c ≤ k) → f' k = f k) (ht : c < 5) (X1 : XP1 B' M' w f' c) : RW B' M' w f' := by
  have g := h.c
  have b0 := g.b0
  have b1 := g.b1
  have b2 := g.b2
  have b3 := g.b3
  have b4 := g.b4
  have b5 := g.b5
  have b6 := g.b6
  have b7 := g.b7
  have b8 := g.b8
  have e0 : f' 0 = f 0 := hf 0 (by omega)
  have c0 : cn f' 0 = cn f 0 := cn_same e0
  have e1 : f' 1 = f 1 := hf 1 (by omega)
  have c1 : cn f' 1 = cn f 1 := cn_same e1
  have e2 : f' 2 = f 2 := hf 2 (by omega)
  have c2 : cn f' 2 = cn f 2 := cn_same e2
  have e3 : f' 3 = f 3 := hf 3 (by omega)
  have c3 : cn f' 3 = cn f 3 := cn_same e3
  have e4 : f' 4 = f 4 := hf 4 (by omega)
  have c4 : cn f' 4 = cn f 4 := cn_same e4
  have e5 : f' 5 = f 5 := hf 5 (by omega)
  have c5 : cn f' 5 = cn f 5 := cn_same e5
  have e6 : f' 6 = f 6 := hf 6 (by omega)
  have c6 : cn f' 6 = cn f 6 := cn_same e6
  have e7 : f' 7 = f 7 := hf 7 (by omega)
  have c7 : cn f' 7 = cn f 7 := cn_same e7
  have e8 : f' 8 = f 8 := hf 8 (by omega)
  have c8 : cn f' 8 = cn f 8 := cn_same e8
  refine ⟨?_, ?_, ?_, ?_, ?_, ?_, ?_, ?_, ?_, ?_, ?_⟩
  · exact g.cong (fun k hk => hM _ _ _ (by omega) (by omega) (by omega)) (fun k hk => hf k (by omega))
  · intro x hx
    rw [c0] at hx
    exact (h.t x hx).cong hB (fun k _ => hM _ _ _ (by omega) (by omega) (by omega)) (fun k h1 h2 => hf k (by omega))
  · exact h.r.cong b1 (fun k _ => hM _ _ _ (by omega) (by omega) (by omega)) (by omega) e1 (fun k h1 h2 => hf k (by omega))
  · intro x hx
    by_cases e : x = c
    · subst e
      exact X1
    · rw [c2] at hx
      exact (h.p x hx).cong hB (fun k _ _ _ => hM _ _ _ (by omega) (by omega) (by omega)) (fun k _ => hM _ _ _ (by omega) (by omega) (by omega)) (by omega) (fun k h1 h2 => hf k (by omega))
  · exact h.f.cong b3 (fun c _ => ⟨hM _ _ _ (by omega) (by omega) (by omega), hM _ _ _ (by omega) (by omega) (by omega)⟩) e2 e3 (fun k h1 h2 => hf k (by omega))
  · intro x hx
    rw [c3] at hx
    exact (h.l x hx).cong (fun k _ => hM _ _ _ (by omega) (by omega) (by omega)) (by omega) (by omega) (fun k h1 h2 => hf k (by omega))
  · intro x hx
    rw [c4] at hx
    exact (h.s x hx).cong (fun k _ => hM _ _ _ (by omega) (by omega) (by omega)) (fun k _ => hM _ _ _ (by omega) (by omega) (by omega)) (fun k h1 h2 => hf k (by omega))
  · intro x hx
    rw [c5] at hx
    exact (h.b x hx).cong hB (fun k _ => hM _ _ _ (by omega) (by omega) (by omega)) (by omega) (by omega) (by omega) (fun k h1 h2 => hf k (by omega))
  · exact h.w.cong b2 (fun c _ k _ => hM _ _ _ (by omega) (by omega) (by omega)) e2 (fun k h1 h2 => hf k (by omega))
  · exact h.a.cong b7 (fun k _ => hM _ _ _ (by omega) (by omega) (by omega)) e7 (fun k h1 h2 => hf k (by omega))
  · exact h.q.cong b8 (fun k _ => hM _ _ _ (by omega) (by omega) (by omega)) e8 (fun k h1 h2 => hf k (by omega))
theorem RW.bondAt {B B' : Nat} {M M' : Mem} {w : Nat} {f f' : Row} {b : Nat} (h : RW B M w f) (hB : B ≤ B') (hM : ∀ r i k, r ≠ 17 → r < 18 → ¬ (r = 15 ∧ i = b) → M' r w i k = M r w i k) (hf : ∀ k, (k < 1056 + 14 * b ∨ 1070 + 14 * b ≤ k) → f' k = f k) (ht : b < 24) (X1 : XB1 B' M' w f' b) : RW B' M' w f' := by
  have g := h.c
  have b0 := g.b0
  have b1 := g.b1
  have b2 := g.b2
  have b3 := g.b3
  have b4 := g.b4
  have b5 := g.b5
  have b6 := g.b6
  have b7 := g.b7
  have b8 := g.b8
  have e0 : f' 0 = f 0 := hf 0 (by omega)
  have c0 : cn f' 0 = cn f 0 := cn_same e0
  have e1 : f' 1 = f 1 := hf 1 (by omega)
  have c1 : cn f' 1 = cn f 1 := cn_same e1
  have e2 : f' 2 = f 2 := hf 2 (by omega)
  have c2 : cn f' 2 = cn f 2 := cn_same e2
  have e3 : f' 3 = f 3 := hf 3 (by omega)
  have c3 : cn f' 3 = cn f 3 := cn_same e3
  have e4 : f' 4 = f 4 := hf 4 (by omega)
  have c4 : cn f' 4 = cn f 4 := cn_same e4
  have e5 : f' 5 = f 5 := hf 5 (by omega)
  have c5 : cn f' 5 = cn f 5 := cn_same e5
  have e6 : f' 6 = f 6 := hf 6 (by omega)
  have c6 : cn f' 6 = cn f 6 := cn_same e6
  have e7 : f' 7 = f 7 := hf 7 (by omega)
  have c7 : cn f' 7 = cn f 7 := cn_same e7
  have e8 : f' 8 = f 8 := hf 8 (by omega)
  have c8 : cn f' 8 = cn f 8 := cn_same e8
  refine ⟨?_, ?_, ?_, ?_, ?_, ?_, ?_, ?_, ?_, ?_, ?_⟩
  · exact g.cong (fun k hk => hM _ _ _ (by omega) (by omega) (by omega)) (fun k hk => hf k (by omega))
  · intro x hx
    rw [c0] at hx
    exact (h.t x hx).cong hB (fun k _ => hM _ _ _ (by omega) (by omega) (by omega)) (fun k h1 h2 => hf k (by omega))
  · exact h.r.cong b1 (fun k _ => hM _ _ _ (by omega) (by omega) (by omega)) (by omega) e1 (fun k h1 h2 => hf k (by omega))
  · intro x hx
    rw [c2] at hx
    exact (h.p x hx).cong hB (fun k _ _ _ => hM _ _ _ (by omega) (by omega) (by omega)) (fun k _ => hM _ _ _ (by omega) (by omega) (by omega)) (by omega) (fun k h1 h2 => hf k (by omega))
  · exact h.f.cong b3 (fun c _ => ⟨hM _ _ _ (by omega) (by omega) (by omega), hM _ _ _ (by omega) (by omega) (by omega)⟩) e2 e3 (fun k h1 h2 => hf k (by omega))
  · intro x hx
    rw [c3] at hx
    exact (h.l x hx).cong (fun k _ => hM _ _ _ (by omega) (by omega) (by omega)) (by omega) (by omega) (fun k h1 h2 => hf k (by omega))
  · intro x hx
    rw [c4] at hx
    exact (h.s x hx).cong (fun k _ => hM _ _ _ (by omega) (by omega) (by omega)) (fun k _ => hM _ _ _ (by omega) (by omega) (by omega)) (fun k h1 h2 => hf k (by omega))
  · intro x hx
    by_cases e : x = b
    · subst e
      exact X1
    · rw [c5] at hx
      exact (h.b x hx).cong hB (fun k _ => hM _ _ _ (by omega) (by omega) (by omega)) (by omega) (by omega) (by omega) (fun k h1 h2 => hf k (by omega))
  · exact h.w.cong b2 (fun c _ k _ => hM _ _ _ (by omega) (by omega) (by omega)) e2 (fun k h1 h2 => hf k (by omega))
  · exact h.a.cong b7 (fun k _ => hM _ _ _ (by omega) (by omega) (by omega)) e7 (fun k h1 h2 => hf k (by omega))
  · exact h.q.cong b8 (fun k _ => hM _ _ _ (by omega) (by omega) (by omega)) e8 (fun k h1 h2 => hf k (by omega))
theorem RW.lanceAt {B B' : Nat} {M M' : Mem} {w : Nat} {f f' : Row} {l : Nat} (h : RW B M w f) (hB : B ≤ B') (hM : ∀ r i k, r ≠ 17 → r < 18 → ¬ ((r = 10 ∧ i = l) ∨ (r = 6 ∧ (k = 6 ∨ k = 7))) → M' r w i k = M r w i k) (hf : ∀ k, (k < 220 + 5 * l ∨ 225 + 5 * l ≤ k) → f' k = f k) (ht : l < 40) (X1 : XL1 M' w f' l) (XN' : XN M' w f') : RW B' M' w f' := by
  have g := h.c
  have b0 := g.b0
  have b1 := g.b1
  have b2 := g.b2
  have b3 := g.b3
  have b4 := g.b4
  have b5 := g.b5
  have b6 := g.b6
  have b7 := g.b7
  have b8 := g.b8
  have e0 : f' 0 = f 0 := hf 0 (by omega)
  have c0 : cn f' 0 = cn f 0 := cn_same e0
  have e1 : f' 1 = f 1 := hf 1 (by omega)
  have c1 : cn f' 1 = cn f 1 := cn_same e1
  have e2 : f' 2 = f 2 := hf 2 (by omega)
  have c2 : cn f' 2 = cn f 2 := cn_same e2
  have e3 : f' 3 = f 3 := hf 3 (by omega)
  have c3 : cn f' 3 = cn f 3 := cn_same e3
  have e4 : f' 4 = f 4 := hf 4 (by omega)
  have c4 : cn f' 4 = cn f 4 := cn_same e4
  have e5 : f' 5 = f 5 := hf 5 (by omega)
  have c5 : cn f' 5 = cn f 5 := cn_same e5
  have e6 : f' 6 = f 6 := hf 6 (by omega)
  have c6 : cn f' 6 = cn f 6 := cn_same e6
  have e7 : f' 7 = f 7 := hf 7 (by omega)
  have c7 : cn f' 7 = cn f 7 := cn_same e7
  have e8 : f' 8 = f 8 := hf 8 (by omega)
  have c8 : cn f' 8 = cn f 8 := cn_same e8
  refine ⟨?_, ?_, ?_, ?_, ?_, ?_, ?_, ?_, ?_, ?_, ?_⟩
  · exact g.cong (fun k hk => hM _ _ _ (by omega) (by omega) (by omega)) (fun k hk => hf k (by omega))
  · intro x hx
    rw [c0] at hx
    exact (h.t x hx).cong hB (fun k _ => hM _ _ _ (by omega) (by omega) (by omega)) (fun k h1 h2 => hf k (by omega))
  · exact h.r.cong b1 (fun k _ => hM _ _ _ (by omega) (by omega) (by omega)) (by omega) e1 (fun k h1 h2 => hf k (by omega))
  · intro x hx
    rw [c2] at hx
    exact (h.p x hx).cong hB (fun k _ _ _ => hM _ _ _ (by omega) (by omega) (by omega)) (fun k _ => hM _ _ _ (by omega) (by omega) (by omega)) (by omega) (fun k h1 h2 => hf k (by omega))
  · exact XN'
  · intro x hx
    by_cases e : x = l
    · subst e
      exact X1
    · rw [c3] at hx
      exact (h.l x hx).cong (fun k _ => hM _ _ _ (by omega) (by omega) (by omega)) (by omega) (by omega) (fun k h1 h2 => hf k (by omega))
  · intro x hx
    rw [c4] at hx
    exact (h.s x hx).cong (fun k _ => hM _ _ _ (by omega) (by omega) (by omega)) (fun k _ => hM _ _ _ (by omega) (by omega) (by omega)) (fun k h1 h2 => hf k (by omega))
  · intro x hx
    rw [c5] at hx
    exact (h.b x hx).cong hB (fun k _ => hM _ _ _ (by omega) (by omega) (by omega)) (by omega) (by omega) (by omega) (fun k h1 h2 => hf k (by omega))
  · exact h.w.cong b2 (fun c _ k _ => hM _ _ _ (by omega) (by omega) (by omega)) e2 (fun k h1 h2 => hf k (by omega))
  · exact h.a.cong b7 (fun k _ => hM _ _ _ (by omega) (by omega) (by omega)) e7 (fun k h1 h2 => hf k (by omega))
  · exact h.q.cong b8 (fun k _ => hM _ _ _ (by omega) (by omega) (by omega)) e8 (fun k h1 h2 => hf k (by omega))
theorem RW.winterAt {B B' : Nat} {M M' : Mem} {w : Nat} {f f' : Row}  (h : RW B M w f) (hB : B ≤ B') (hM : ∀ r i k, r ≠ 17 → r < 18 → ¬ (r = 8) → M' r w i k = M r w i k) (hf : ∀ k, (k < 1392 ∨ 1432 ≤ k) → f' k = f k) (X1 : XW M' w f') : RW B' M' w f' := by
  have g := h.c
  have b0 := g.b0
  have b1 := g.b1
  have b2 := g.b2
  have b3 := g.b3
  have b4 := g.b4
  have b5 := g.b5
  have b6 := g.b6
  have b7 := g.b7
  have b8 := g.b8
  have e0 : f' 0 = f 0 := hf 0 (by omega)
  have c0 : cn f' 0 = cn f 0 := cn_same e0
  have e1 : f' 1 = f 1 := hf 1 (by omega)
  have c1 : cn f' 1 = cn f 1 := cn_same e1
  have e2 : f' 2 = f 2 := hf 2 (by omega)
  have c2 : cn f' 2 = cn f 2 := cn_same e2
  have e3 : f' 3 = f 3 := hf 3 (by omega)
  have c3 : cn f' 3 = cn f 3 := cn_same e3
  have e4 : f' 4 = f 4 := hf 4 (by omega)
  have c4 : cn f' 4 = cn f 4 := cn_same e4
  have e5 : f' 5 = f 5 := hf 5 (by omega)
  have c5 : cn f' 5 = cn f 5 := cn_same e5
  have e6 : f' 6 = f 6 := hf 6 (by omega)
  have c6 : cn f' 6 = cn f 6 := cn_same e6
  have e7 : f' 7 = f 7 := hf 7 (by omega)
  have c7 : cn f' 7 = cn f 7 := cn_same e7
  have e8 : f' 8 = f 8 := hf 8 (by omega)
  have c8 : cn f' 8 = cn f 8 := cn_same e8
  refine ⟨?_, ?_, ?_, ?_, ?_, ?_, ?_, ?_, ?_, ?_, ?_⟩
  · exact g.cong (fun k hk => hM _ _ _ (by omega) (by omega) (by omega)) (fun k hk => hf k (by omega))
  · intro x hx
    rw [c0] at hx
    exact (h.t x hx).cong hB (fun k _ => hM _ _ _ (by omega) (by omega) (by omega)) (fun k h1 h2 => hf k (by omega))
  · exact h.r.cong b1 (fun k _ => hM _ _ _ (by omega) (by omega) (by omega)) (by omega) e1 (fun k h1 h2 => hf k (by omega))
  · intro x hx
    rw [c2] at hx
    exact (h.p x hx).cong hB (fun k _ _ _ => hM _ _ _ (by omega) (by omega) (by omega)) (fun k _ => hM _ _ _ (by omega) (by omega) (by omega)) (by omega) (fun k h1 h2 => hf k (by omega))
  · exact h.f.cong b3 (fun c _ => ⟨hM _ _ _ (by omega) (by omega) (by omega), hM _ _ _ (by omega) (by omega) (by omega)⟩) e2 e3 (fun k h1 h2 => hf k (by omega))
  · intro x hx
    rw [c3] at hx
    exact (h.l x hx).cong (fun k _ => hM _ _ _ (by omega) (by omega) (by omega)) (by omega) (by omega) (fun k h1 h2 => hf k (by omega))
  · intro x hx
    rw [c4] at hx
    exact (h.s x hx).cong (fun k _ => hM _ _ _ (by omega) (by omega) (by omega)) (fun k _ => hM _ _ _ (by omega) (by omega) (by omega)) (fun k h1 h2 => hf k (by omega))
  · intro x hx
    rw [c5] at hx
    exact (h.b x hx).cong hB (fun k _ => hM _ _ _ (by omega) (by omega) (by omega)) (by omega) (by omega) (by omega) (fun k h1 h2 => hf k (by omega))
  · exact X1
  · exact h.a.cong b7 (fun k _ => hM _ _ _ (by omega) (by omega) (by omega)) e7 (fun k h1 h2 => hf k (by omega))
  · exact h.q.cong b8 (fun k _ => hM _ _ _ (by omega) (by omega) (by omega)) e8 (fun k h1 h2 => hf k (by omega))
theorem RW.tape {B B' : Nat} {M M' : Mem} {w : Nat} {f f' : Row}  (h : RW B M w f) (hB : B ≤ B') (hM : ∀ r i k, r ≠ 17 → r < 18 → ¬ ((r = 13 ∧ i = 12) ∨ (r = 1 ∧ k = 14)) → M' r w i k = M r w i k) (hf : ∀ k, ((k < 1432 ∧ k ≠ 7) ∨ 1482 ≤ k) → f' k = f k) (hC : XC M' w f') (X1 : XA M' w f') : RW B' M' w f' := by
  have g := h.c
  have b0 := g.b0
  have b1 := g.b1
  have b2 := g.b2
  have b3 := g.b3
  have b4 := g.b4
  have b5 := g.b5
  have b6 := g.b6
  have b7 := g.b7
  have b8 := g.b8
  have e0 : f' 0 = f 0 := hf 0 (by omega)
  have c0 : cn f' 0 = cn f 0 := cn_same e0
  have e1 : f' 1 = f 1 := hf 1 (by omega)
  have c1 : cn f' 1 = cn f 1 := cn_same e1
  have e2 : f' 2 = f 2 := hf 2 (by omega)
  have c2 : cn f' 2 = cn f 2 := cn_same e2
  have e3 : f' 3 = f 3 := hf 3 (by omega)
  have c3 : cn f' 3 = cn f 3 := cn_same e3
  have e4 : f' 4 = f 4 := hf 4 (by omega)
  have c4 : cn f' 4 = cn f 4 := cn_same e4
  have e5 : f' 5 = f 5 := hf 5 (by omega)
  have c5 : cn f' 5 = cn f 5 := cn_same e5
  have e6 : f' 6 = f 6 := hf 6 (by omega)
  have c6 : cn f' 6 = cn f 6 := cn_same e6
  have e8 : f' 8 = f 8 := hf 8 (by omega)
  have c8 : cn f' 8 = cn f 8 := cn_same e8
  refine ⟨?_, ?_, ?_, ?_, ?_, ?_, ?_, ?_, ?_, ?_, ?_⟩
  · exact hC
  · intro x hx
    rw [c0] at hx
    exact (h.t x hx).cong hB (fun k _ => hM _ _ _ (by omega) (by omega) (by omega)) (fun k h1 h2 => hf k (by omega))
  · exact h.r.cong b1 (fun k _ => hM _ _ _ (by omega) (by omega) (by omega)) (by omega) e1 (fun k h1 h2 => hf k (by omega))
  · intro x hx
    rw [c2] at hx
    exact (h.p x hx).cong hB (fun k _ _ _ => hM _ _ _ (by omega) (by omega) (by omega)) (fun k _ => hM _ _ _ (by omega) (by omega) (by omega)) (by omega) (fun k h1 h2 => hf k (by omega))
  · exact h.f.cong b3 (fun c _ => ⟨hM _ _ _ (by omega) (by omega) (by omega), hM _ _ _ (by omega) (by omega) (by omega)⟩) e2 e3 (fun k h1 h2 => hf k (by omega))
  · intro x hx
    rw [c3] at hx
    exact (h.l x hx).cong (fun k _ => hM _ _ _ (by omega) (by omega) (by omega)) (by omega) (by omega) (fun k h1 h2 => hf k (by omega))
  · intro x hx
    rw [c4] at hx
    exact (h.s x hx).cong (fun k _ => hM _ _ _ (by omega) (by omega) (by omega)) (fun k _ => hM _ _ _ (by omega) (by omega) (by omega)) (fun k h1 h2 => hf k (by omega))
  · intro x hx
    rw [c5] at hx
    exact (h.b x hx).cong hB (fun k _ => hM _ _ _ (by omega) (by omega) (by omega)) (by omega) (by omega) (by omega) (fun k h1 h2 => hf k (by omega))
  · exact h.w.cong b2 (fun c _ k _ => hM _ _ _ (by omega) (by omega) (by omega)) e2 (fun k h1 h2 => hf k (by omega))
  · exact X1
  · exact h.q.cong b8 (fun k _ => hM _ _ _ (by omega) (by omega) (by omega)) e8 (fun k h1 h2 => hf k (by omega))
theorem RW.wait {B B' : Nat} {M M' : Mem} {w : Nat} {f f' : Row}  (h : RW B M w f) (hB : B ≤ B') (hM : ∀ r i k, r ≠ 17 → r < 18 → ¬ (r = 16 ∨ (r = 1 ∧ k = 16)) → M' r w i k = M r w i k) (hf : ∀ k, ((k < 1482 ∧ k ≠ 8) ∨ 1502 ≤ k) → f' k = f k) (hC : XC M' w f') (X1 : XQ M' w f') : RW B' M' w f' := by
  have g := h.c
  have b0 := g.b0
  have b1 := g.b1
  have b2 := g.b2
  have b3 := g.b3
  have b4 := g.b4
  have b5 := g.b5
  have b6 := g.b6
  have b7 := g.b7
  have b8 := g.b8
  have e0 : f' 0 = f 0 := hf 0 (by omega)
  have c0 : cn f' 0 = cn f 0 := cn_same e0
  have e1 : f' 1 = f 1 := hf 1 (by omega)
  have c1 : cn f' 1 = cn f 1 := cn_same e1
  have e2 : f' 2 = f 2 := hf 2 (by omega)
  have c2 : cn f' 2 = cn f 2 := cn_same e2
  have e3 : f' 3 = f 3 := hf 3 (by omega)
  have c3 : cn f' 3 = cn f 3 := cn_same e3
  have e4 : f' 4 = f 4 := hf 4 (by omega)
  have c4 : cn f' 4 = cn f 4 := cn_same e4
  have e5 : f' 5 = f 5 := hf 5 (by omega)
  have c5 : cn f' 5 = cn f 5 := cn_same e5
  have e6 : f' 6 = f 6 := hf 6 (by omega)
  have c6 : cn f' 6 = cn f 6 := cn_same e6
  have e7 : f' 7 = f 7 := hf 7 (by omega)
  have c7 : cn f' 7 = cn f 7 := cn_same e7
  refine ⟨?_, ?_, ?_, ?_, ?_, ?_, ?_, ?_, ?_, ?_, ?_⟩
  · exact hC
  · intro x hx
    rw [c0] at hx
    exact (h.t x hx).cong hB (fun k _ => hM _ _ _ (by omega) (by omega) (by omega)) (fun k h1 h2 => hf k (by omega))
  · exact h.r.cong b1 (fun k _ => hM _ _ _ (by omega) (by omega) (by omega)) (by omega) e1 (fun k h1 h2 => hf k (by omega))
  · intro x hx
    rw [c2] at hx
    exact (h.p x hx).cong hB (fun k _ _ _ => hM _ _ _ (by omega) (by omega) (by omega)) (fun k _ => hM _ _ _ (by omega) (by omega) (by omega)) (by omega) (fun k h1 h2 => hf k (by omega))
  · exact h.f.cong b3 (fun c _ => ⟨hM _ _ _ (by omega) (by omega) (by omega), hM _ _ _ (by omega) (by omega) (by omega)⟩) e2 e3 (fun k h1 h2 => hf k (by omega))
  · intro x hx
    rw [c3] at hx
    exact (h.l x hx).cong (fun k _ => hM _ _ _ (by omega) (by omega) (by omega)) (by omega) (by omega) (fun k h1 h2 => hf k (by omega))
  · intro x hx
    rw [c4] at hx
    exact (h.s x hx).cong (fun k _ => hM _ _ _ (by omega) (by omega) (by omega)) (fun k _ => hM _ _ _ (by omega) (by omega) (by omega)) (fun k h1 h2 => hf k (by omega))
  · intro x hx
    rw [c5] at hx
    exact (h.b x hx).cong hB (fun k _ => hM _ _ _ (by omega) (by omega) (by omega)) (by omega) (by omega) (by omega) (fun k h1 h2 => hf k (by omega))
  · exact h.w.cong b2 (fun c _ k _ => hM _ _ _ (by omega) (by omega) (by omega)) e2 (fun k h1 h2 => hf k (by omega))
  · exact h.a.cong b7 (fun k _ => hM _ _ _ (by omega) (by omega) (by omega)) e7 (fun k h1 h2 => hf k (by omega))
  · exact X1
theorem RW.road {B B' : Nat} {M M' : Mem} {w : Nat} {f f' : Row}  (h : RW B M w f) (hB : B ≤ B') (hM : ∀ r i k, r ≠ 17 → r < 18 → ¬ (r = 4 ∨ (r = 1 ∧ k = 3)) → M' r w i k = M r w i k) (hf : ∀ k, ((k < 52 ∧ k ≠ 1) ∨ 100 ≤ k) → f' k = f k) (hC : XC M' w f') (X1 : XR M' w f') : RW B' M' w f' := by
  have g := h.c
  have b0 := g.b0
  have b1 := g.b1
  have b2 := g.b2
  have b3 := g.b3
  have b4 := g.b4
  have b5 := g.b5
  have b6 := g.b6
  have b7 := g.b7
  have b8 := g.b8
  have e0 : f' 0 = f 0 := hf 0 (by omega)
  have c0 : cn f' 0 = cn f 0 := cn_same e0
  have e2 : f' 2 = f 2 := hf 2 (by omega)
  have c2 : cn f' 2 = cn f 2 := cn_same e2
  have e3 : f' 3 = f 3 := hf 3 (by omega)
  have c3 : cn f' 3 = cn f 3 := cn_same e3
  have e4 : f' 4 = f 4 := hf 4 (by omega)
  have c4 : cn f' 4 = cn f 4 := cn_same e4
  have e5 : f' 5 = f 5 := hf 5 (by omega)
  have c5 : cn f' 5 = cn f 5 := cn_same e5
  have e6 : f' 6 = f 6 := hf 6 (by omega)
  have c6 : cn f' 6 = cn f 6 := cn_same e6
  have e7 : f' 7 = f 7 := hf 7 (by omega)
  have c7 : cn f' 7 = cn f 7 := cn_same e7
  have e8 : f' 8 = f 8 := hf 8 (by omega)
  have c8 : cn f' 8 = cn f 8 := cn_same e8
  refine ⟨?_, ?_, ?_, ?_, ?_, ?_, ?_, ?_, ?_, ?_, ?_⟩
  · exact hC
  · intro x hx
    rw [c0] at hx
    exact (h.t x hx).cong hB (fun k _ => hM _ _ _ (by omega) (by omega) (by omega)) (fun k h1 h2 => hf k (by omega))
  · exact X1
  · intro x hx
    rw [c2] at hx
    exact (h.p x hx).cong hB (fun k _ _ _ => hM _ _ _ (by omega) (by omega) (by omega)) (fun k _ => hM _ _ _ (by omega) (by omega) (by omega)) (by omega) (fun k h1 h2 => hf k (by omega))
  · exact h.f.cong b3 (fun c _ => ⟨hM _ _ _ (by omega) (by omega) (by omega), hM _ _ _ (by omega) (by omega) (by omega)⟩) e2 e3 (fun k h1 h2 => hf k (by omega))
  · intro x hx
    rw [c3] at hx
    exact (h.l x hx).cong (fun k _ => hM _ _ _ (by omega) (by omega) (by omega)) (by omega) (by omega) (fun k h1 h2 => hf k (by omega))
  · intro x hx
    rw [c4] at hx
    exact (h.s x hx).cong (fun k _ => hM _ _ _ (by omega) (by omega) (by omega)) (fun k _ => hM _ _ _ (by omega) (by omega) (by omega)) (fun k h1 h2 => hf k (by omega))
  · intro x hx
    rw [c5] at hx
    exact (h.b x hx).cong hB (fun k _ => hM _ _ _ (by omega) (by omega) (by omega)) (by omega) (by omega) (by omega) (fun k h1 h2 => hf k (by omega))
  · exact h.w.cong b2 (fun c _ k _ => hM _ _ _ (by omega) (by omega) (by omega)) e2 (fun k h1 h2 => hf k (by omega))
  · exact h.a.cong b7 (fun k _ => hM _ _ _ (by omega) (by omega) (by omega)) e7 (fun k h1 h2 => hf k (by omega))
  · exact h.q.cong b8 (fun k _ => hM _ _ _ (by omega) (by omega) (by omega)) e8 (fun k h1 h2 => hf k (by omega))
theorem RW.day {B B' : Nat} {M M' : Mem} {w : Nat} {f f' : Row}  (h : RW B M w f) (hB : B ≤ B') (hM : ∀ r i k, r ≠ 17 → r < 18 → ¬ (r = 1 ∧ k = 0) → M' r w i k = M r w i k) (hf : ∀ k, (k ≠ 6) → f' k = f k) (hC : XC M' w f') (c6 : cn f 6 ≤ cn f' 6) : RW B' M' w f' := by
  have g := h.c
  have b0 := g.b0
  have b1 := g.b1
  have b2 := g.b2
  have b3 := g.b3
  have b4 := g.b4
  have b5 := g.b5
  have b6 := g.b6
  have b7 := g.b7
  have b8 := g.b8
  have e0 : f' 0 = f 0 := hf 0 (by omega)
  have c0 : cn f' 0 = cn f 0 := cn_same e0
  have e1 : f' 1 = f 1 := hf 1 (by omega)
  have c1 : cn f' 1 = cn f 1 := cn_same e1
  have e2 : f' 2 = f 2 := hf 2 (by omega)
  have c2 : cn f' 2 = cn f 2 := cn_same e2
  have e3 : f' 3 = f 3 := hf 3 (by omega)
  have c3 : cn f' 3 = cn f 3 := cn_same e3
  have e4 : f' 4 = f 4 := hf 4 (by omega)
  have c4 : cn f' 4 = cn f 4 := cn_same e4
  have e5 : f' 5 = f 5 := hf 5 (by omega)
  have c5 : cn f' 5 = cn f 5 := cn_same e5
  have e7 : f' 7 = f 7 := hf 7 (by omega)
  have c7 : cn f' 7 = cn f 7 := cn_same e7
  have e8 : f' 8 = f 8 := hf 8 (by omega)
  have c8 : cn f' 8 = cn f 8 := cn_same e8
  refine ⟨?_, ?_, ?_, ?_, ?_, ?_, ?_, ?_, ?_, ?_, ?_⟩
  · exact hC
  · intro x hx
    rw [c0] at hx
    exact (h.t x hx).cong hB (fun k _ => hM _ _ _ (by omega) (by omega) (by omega)) (fun k h1 h2 => hf k (by omega))
  · exact h.r.cong b1 (fun k _ => hM _ _ _ (by omega) (by omega) (by omega)) (by omega) e1 (fun k h1 h2 => hf k (by omega))
  · intro x hx
    rw [c2] at hx
    exact (h.p x hx).cong hB (fun k _ _ _ => hM _ _ _ (by omega) (by omega) (by omega)) (fun k _ => hM _ _ _ (by omega) (by omega) (by omega)) (by omega) (fun k h1 h2 => hf k (by omega))
  · exact h.f.cong b3 (fun c _ => ⟨hM _ _ _ (by omega) (by omega) (by omega), hM _ _ _ (by omega) (by omega) (by omega)⟩) e2 e3 (fun k h1 h2 => hf k (by omega))
  · intro x hx
    rw [c3] at hx
    exact (h.l x hx).cong (fun k _ => hM _ _ _ (by omega) (by omega) (by omega)) (by omega) (by omega) (fun k h1 h2 => hf k (by omega))
  · intro x hx
    rw [c4] at hx
    exact (h.s x hx).cong (fun k _ => hM _ _ _ (by omega) (by omega) (by omega)) (fun k _ => hM _ _ _ (by omega) (by omega) (by omega)) (fun k h1 h2 => hf k (by omega))
  · intro x hx
    rw [c5] at hx
    exact (h.b x hx).cong hB (fun k _ => hM _ _ _ (by omega) (by omega) (by omega)) (by omega) (by omega) (by omega) (fun k h1 h2 => hf k (by omega))
  · exact h.w.cong b2 (fun c _ k _ => hM _ _ _ (by omega) (by omega) (by omega)) e2 (fun k h1 h2 => hf k (by omega))
  · exact h.a.cong b7 (fun k _ => hM _ _ _ (by omega) (by omega) (by omega)) e7 (fun k h1 h2 => hf k (by omega))
  · exact h.q.cong b8 (fun k _ => hM _ _ _ (by omega) (by omega) (by omega)) e8 (fun k h1 h2 => hf k (by omega))
theorem RW.newTown {B B' : Nat} {M M' : Mem} {w : Nat} {f f' : Row}  (h : RW B M w f) (hB : B ≤ B') (hM : ∀ r i k, r ≠ 17 → r < 18 → ¬ ((r = 3 ∧ i = cn f 0) ∨ (r = 1 ∧ k = 2)) → M' r w i k = M r w i k) (hf : ∀ k, ((k < 20 + 4 * cn f 0 ∧ k ≠ 0) ∨ 24 + 4 * cn f 0 ≤ k) → f' k = f k) (hC : XC M' w f') (c0 : cn f' 0 = cn f 0 + 1) (X1 : XT1 B' M' w f' (cn f 0)) : RW B' M' w f' := by
  have g := h.c
  have b0 := g.b0
  have b1 := g.b1
  have b2 := g.b2
  have b3 := g.b3
  have b4 := g.b4
  have b5 := g.b5
  have b6 := g.b6
  have b7 := g.b7
  have b8 := g.b8
  have e1 : f' 1 = f 1 := hf 1 (by omega)
  have c1 : cn f' 1 = cn f 1 := cn_same e1
  have e2 : f' 2 = f 2 := hf 2 (by omega)
  have c2 : cn f' 2 = cn f 2 := cn_same e2
  have e3 : f' 3 = f 3 := hf 3 (by omega)
  have c3 : cn f' 3 = cn f 3 := cn_same e3
  have e4 : f' 4 = f 4 := hf 4 (by omega)
  have c4 : cn f' 4 = cn f 4 := cn_same e4
  have e5 : f' 5 = f 5 := hf 5 (by omega)
  have c5 : cn f' 5 = cn f 5 := cn_same e5
  have e6 : f' 6 = f 6 := hf 6 (by omega)
  have c6 : cn f' 6 = cn f 6 := cn_same e6
  have e7 : f' 7 = f 7 := hf 7 (by omega)
  have c7 : cn f' 7 = cn f 7 := cn_same e7
  have e8 : f' 8 = f 8 := hf 8 (by omega)
  have c8 : cn f' 8 = cn f 8 := cn_same e8
  have b0' : cn f' 0 ≤ 8 := hC.b0
  refine ⟨?_, ?_, ?_, ?_, ?_, ?_, ?_, ?_, ?_, ?_, ?_⟩
  · exact hC
  · intro x hx
    by_cases e : x = cn f 0
    · subst e
      exact X1
    · have hx : x < cn f 0 := by omega
      exact (h.t x hx).cong hB (fun k _ => hM _ _ _ (by omega) (by omega) (by omega)) (fun k h1 h2 => hf k (by omega))
  · exact h.r.cong b1 (fun k _ => hM _ _ _ (by omega) (by omega) (by omega)) (by omega) e1 (fun k h1 h2 => hf k (by omega))
  · intro x hx
    rw [c2] at hx
    exact (h.p x hx).cong hB (fun k _ _ _ => hM _ _ _ (by omega) (by omega) (by omega)) (fun k _ => hM _ _ _ (by omega) (by omega) (by omega)) (by omega) (fun k h1 h2 => hf k (by omega))
  · exact h.f.cong b3 (fun c _ => ⟨hM _ _ _ (by omega) (by omega) (by omega), hM _ _ _ (by omega) (by omega) (by omega)⟩) e2 e3 (fun k h1 h2 => hf k (by omega))
  · intro x hx
    rw [c3] at hx
    exact (h.l x hx).cong (fun k _ => hM _ _ _ (by omega) (by omega) (by omega)) (by omega) (by omega) (fun k h1 h2 => hf k (by omega))
  · intro x hx
    rw [c4] at hx
    exact (h.s x hx).cong (fun k _ => hM _ _ _ (by omega) (by omega) (by omega)) (fun k _ => hM _ _ _ (by omega) (by omega) (by omega)) (fun k h1 h2 => hf k (by omega))
  · intro x hx
    rw [c5] at hx
    exact (h.b x hx).cong hB (fun k _ => hM _ _ _ (by omega) (by omega) (by omega)) (by omega) (by omega) (by omega) (fun k h1 h2 => hf k (by omega))
  · exact h.w.cong b2 (fun c _ k _ => hM _ _ _ (by omega) (by omega) (by omega)) e2 (fun k h1 h2 => hf k (by omega))
  · exact h.a.cong b7 (fun k _ => hM _ _ _ (by omega) (by omega) (by omega)) e7 (fun k h1 h2 => hf k (by omega))
  · exact h.q.cong b8 (fun k _ => hM _ _ _ (by omega) (by omega) (by omega)) e8 (fun k h1 h2 => hf k (by omega))
theorem RW.newBond {B B' : Nat} {M M' : Mem} {w : Nat} {f f' : Row}  (h : RW B M w f) (hB : B ≤ B') (hM : ∀ r i k, r ≠ 17 → r < 18 → ¬ ((r = 15 ∧ i = cn f 5) ∨ (r = 1 ∧ k = 12)) → M' r w i k = M r w i k) (hf : ∀ k, ((k < 1056 + 14 * cn f 5 ∧ k ≠ 5) ∨ 1070 + 14 * cn f 5 ≤ k) → f' k = f k) (hC : XC M' w f') (c5 : cn f' 5 = cn f 5 + 1) (X1 : XB1 B' M' w f' (cn f 5)) : RW B' M' w f' := by
  have g := h.c
  have b0 := g.b0
  have b1 := g.b1
  have b2 := g.b2
  have b3 := g.b3
  have b4 := g.b4
  have b5 := g.b5
  have b6 := g.b6
  have b7 := g.b7
  have b8 := g.b8
  have e0 : f' 0 = f 0 := hf 0 (by omega)
  have c0 : cn f' 0 = cn f 0 := cn_same e0
  have e1 : f' 1 = f 1 := hf 1 (by omega)
  have c1 : cn f' 1 = cn f 1 := cn_same e1
  have e2 : f' 2 = f 2 := hf 2 (by omega)
  have c2 : cn f' 2 = cn f 2 := cn_same e2
  have e3 : f' 3 = f 3 := hf 3 (by omega)
  have c3 : cn f' 3 = cn f 3 := cn_same e3
  have e4 : f' 4 = f 4 := hf 4 (by omega)
  have c4 : cn f' 4 = cn f 4 := cn_same e4
  have e6 : f' 6 = f 6 := hf 6 (by omega)
  have c6 : cn f' 6 = cn f 6 := cn_same e6
  have e7 : f' 7 = f 7 := hf 7 (by omega)
  have c7 : cn f' 7 = cn f 7 := cn_same e7
  have e8 : f' 8 = f 8 := hf 8 (by omega)
  have c8 : cn f' 8 = cn f 8 := cn_same e8
  have b5' : cn f' 5 ≤ 24 := hC.b5
  refine ⟨?_, ?_, ?_, ?_, ?_, ?_, ?_, ?_, ?_, ?_, ?_⟩
  · exact hC
  · intro x hx
    rw [c0] at hx
    exact (h.t x hx).cong hB (fun k _ => hM _ _ _ (by omega) (by omega) (by omega)) (fun k h1 h2 => hf k (by omega))
  · exact h.r.cong b1 (fun k _ => hM _ _ _ (by omega) (by omega) (by omega)) (by omega) e1 (fun k h1 h2 => hf k (by omega))
  · intro x hx
    rw [c2] at hx
    exact (h.p x hx).cong hB (fun k _ _ _ => hM _ _ _ (by omega) (by omega) (by omega)) (fun k _ => hM _ _ _ (by omega) (by omega) (by omega)) (by omega) (fun k h1 h2 => hf k (by omega))
  · exact h.f.cong b3 (fun c _ => ⟨hM _ _ _ (by omega) (by omega) (by omega), hM _ _ _ (by omega) (by omega) (by omega)⟩) e2 e3 (fun k h1 h2 => hf k (by omega))
  · intro x hx
    rw [c3] at hx
    exact (h.l x hx).cong (fun k _ => hM _ _ _ (by omega) (by omega) (by omega)) (by omega) (by omega) (fun k h1 h2 => hf k (by omega))
  · intro x hx
    rw [c4] at hx
    exact (h.s x hx).cong (fun k _ => hM _ _ _ (by omega) (by omega) (by omega)) (fun k _ => hM _ _ _ (by omega) (by omega) (by omega)) (fun k h1 h2 => hf k (by omega))
  · intro x hx
    by_cases e : x = cn f 5
    · subst e
      exact X1
    · have hx : x < cn f 5 := by omega
      exact (h.b x hx).cong hB (fun k _ => hM _ _ _ (by omega) (by omega) (by omega)) (by omega) (by omega) (by omega) (fun k h1 h2 => hf k (by omega))
  · exact h.w.cong b2 (fun c _ k _ => hM _ _ _ (by omega) (by omega) (by omega)) e2 (fun k h1 h2 => hf k (by omega))
  · exact h.a.cong b7 (fun k _ => hM _ _ _ (by omega) (by omega) (by omega)) e7 (fun k h1 h2 => hf k (by omega))
  · exact h.q.cong b8 (fun k _ => hM _ _ _ (by omega) (by omega) (by omega)) e8 (fun k h1 h2 => hf k (by omega))
theorem RW.newLance {B B' : Nat} {M M' : Mem} {w : Nat} {f f' : Row}  (h : RW B M w f) (hB : B ≤ B') (hM : ∀ r i k, r ≠ 17 → r < 18 → ¬ ((r = 10 ∧ i = cn f 3) ∨ (r = 6 ∧ (k = 6 ∨ k = 7)) ∨ (r = 1 ∧ k = 8)) → M' r w i k = M r w i k) (hf : ∀ k, ((k < 220 + 5 * cn f 3 ∧ k ≠ 3) ∨ 225 + 5 * cn f 3 ≤ k) → f' k = f k) (hC : XC M' w f') (c3 : cn f' 3 = cn f 3 + 1) (X1 : XL1 M' w f' (cn f 3)) (XN' : XN M' w f') : RW B' M' w f' := by
  have g := h.c
  have b0 := g.b0
  have b1 := g.b1
  have b2 := g.b2
  have b3 := g.b3
  have b4 := g.b4
  have b5 := g.b5
  have b6 := g.b6
  have b7 := g.b7
  have b8 := g.b8
  have e0 : f' 0 = f 0 := hf 0 (by omega)
  have c0 : cn f' 0 = cn f 0 := cn_same e0
  have e1 : f' 1 = f 1 := hf 1 (by omega)
  have c1 : cn f' 1 = cn f 1 := cn_same e1
  have e2 : f' 2 = f 2 := hf 2 (by omega)
  have c2 : cn f' 2 = cn f 2 := cn_same e2
  have e4 : f' 4 = f 4 := hf 4 (by omega)
  have c4 : cn f' 4 = cn f 4 := cn_same e4
  have e5 : f' 5 = f 5 := hf 5 (by omega)
  have c5 : cn f' 5 = cn f 5 := cn_same e5
  have e6 : f' 6 = f 6 := hf 6 (by omega)
  have c6 : cn f' 6 = cn f 6 := cn_same e6
  have e7 : f' 7 = f 7 := hf 7 (by omega)
  have c7 : cn f' 7 = cn f 7 := cn_same e7
  have e8 : f' 8 = f 8 := hf 8 (by omega)
  have c8 : cn f' 8 = cn f 8 := cn_same e8
  have b3' : cn f' 3 ≤ 40 := hC.b3
  refine ⟨?_, ?_, ?_, ?_, ?_, ?_, ?_, ?_, ?_, ?_, ?_⟩
  · exact hC
  · intro x hx
    rw [c0] at hx
    exact (h.t x hx).cong hB (fun k _ => hM _ _ _ (by omega) (by omega) (by omega)) (fun k h1 h2 => hf k (by omega))
  · exact h.r.cong b1 (fun k _ => hM _ _ _ (by omega) (by omega) (by omega)) (by omega) e1 (fun k h1 h2 => hf k (by omega))
  · intro x hx
    rw [c2] at hx
    exact (h.p x hx).cong hB (fun k _ _ _ => hM _ _ _ (by omega) (by omega) (by omega)) (fun k _ => hM _ _ _ (by omega) (by omega) (by omega)) (by omega) (fun k h1 h2 => hf k (by omega))
  · exact XN'
  · intro x hx
    by_cases e : x = cn f 3
    · subst e
      exact X1
    · have hx : x < cn f 3 := by omega
      exact (h.l x hx).cong (fun k _ => hM _ _ _ (by omega) (by omega) (by omega)) (by omega) (by omega) (fun k h1 h2 => hf k (by omega))
  · intro x hx
    rw [c4] at hx
    exact (h.s x hx).cong (fun k _ => hM _ _ _ (by omega) (by omega) (by omega)) (fun k _ => hM _ _ _ (by omega) (by omega) (by omega)) (fun k h1 h2 => hf k (by omega))
  · intro x hx
    rw [c5] at hx
    exact (h.b x hx).cong hB (fun k _ => hM _ _ _ (by omega) (by omega) (by omega)) (by omega) (by omega) (by omega) (fun k h1 h2 => hf k (by omega))
  · exact h.w.cong b2 (fun c _ k _ => hM _ _ _ (by omega) (by omega) (by omega)) e2 (fun k h1 h2 => hf k (by omega))
  · exact h.a.cong b7 (fun k _ => hM _ _ _ (by omega) (by omega) (by omega)) e7 (fun k h1 h2 => hf k (by omega))
  · exact h.q.cong b8 (fun k _ => hM _ _ _ (by omega) (by omega) (by omega)) e8 (fun k h1 h2 => hf k (by omega))
theorem RW.newStatute {B B' : Nat} {M M' : Mem} {w : Nat} {f f' : Row}  (h : RW B M w f) (hB : B ≤ B') (hM : ∀ r i k, r ≠ 17 → r < 18 → ¬ (((r = 12 ∨ r = 13) ∧ i = cn f 4) ∨ (r = 1 ∧ (k = 10 ∨ k = 14))) → M' r w i k = M r w i k) (hf : ∀ k, ((k < 420 + 53 * cn f 4 ∧ k ≠ 4 ∧ k ≠ 7) ∨ 473 + 53 * cn f 4 ≤ k) → f' k = f k) (hC : XC M' w f') (c4 : cn f' 4 = cn f 4 + 1) (c7 : cn f' 7 = 0) (X1 : XS1 M' w f' (cn f 4)) : RW B' M' w f' := by
  have g := h.c
  have b0 := g.b0
  have b1 := g.b1
  have b2 := g.b2
  have b3 := g.b3
  have b4 := g.b4
  have b5 := g.b5
  have b6 := g.b6
  have b7 := g.b7
  have b8 := g.b8
  have e0 : f' 0 = f 0 := hf 0 (by omega)
  have c0 : cn f' 0 = cn f 0 := cn_same e0
  have e1 : f' 1 = f 1 := hf 1 (by omega)
  have c1 : cn f' 1 = cn f 1 := cn_same e1
  have e2 : f' 2 = f 2 := hf 2 (by omega)
  have c2 : cn f' 2 = cn f 2 := cn_same e2
  have e3 : f' 3 = f 3 := hf 3 (by omega)
  have c3 : cn f' 3 = cn f 3 := cn_same e3
  have e5 : f' 5 = f 5 := hf 5 (by omega)
  have c5 : cn f' 5 = cn f 5 := cn_same e5
  have e6 : f' 6 = f 6 := hf 6 (by omega)
  have c6 : cn f' 6 = cn f 6 := cn_same e6
  have e8 : f' 8 = f 8 := hf 8 (by omega)
  have c8 : cn f' 8 = cn f 8 := cn_same e8
  have b4' : cn f' 4 ≤ 12 := hC.b4
  refine ⟨?_, ?_, ?_, ?_, ?_, ?_, ?_, ?_, ?_, ?_, ?_⟩
  · exact hC
  · intro x hx
    rw [c0] at hx
    exact (h.t x hx).cong hB (fun k _ => hM _ _ _ (by omega) (by omega) (by omega)) (fun k h1 h2 => hf k (by omega))
  · exact h.r.cong b1 (fun k _ => hM _ _ _ (by omega) (by omega) (by omega)) (by omega) e1 (fun k h1 h2 => hf k (by omega))
  · intro x hx
    rw [c2] at hx
    exact (h.p x hx).cong hB (fun k _ _ _ => hM _ _ _ (by omega) (by omega) (by omega)) (fun k _ => hM _ _ _ (by omega) (by omega) (by omega)) (by omega) (fun k h1 h2 => hf k (by omega))
  · exact h.f.cong b3 (fun c _ => ⟨hM _ _ _ (by omega) (by omega) (by omega), hM _ _ _ (by omega) (by omega) (by omega)⟩) e2 e3 (fun k h1 h2 => hf k (by omega))
  · intro x hx
    rw [c3] at hx
    exact (h.l x hx).cong (fun k _ => hM _ _ _ (by omega) (by omega) (by omega)) (by omega) (by omega) (fun k h1 h2 => hf k (by omega))
  · intro x hx
    by_cases e : x = cn f 4
    · subst e
      exact X1
    · have hx : x < cn f 4 := by omega
      exact (h.s x hx).cong (fun k _ => hM _ _ _ (by omega) (by omega) (by omega)) (fun k _ => hM _ _ _ (by omega) (by omega) (by omega)) (fun k h1 h2 => hf k (by omega))
  · intro x hx
    rw [c5] at hx
    exact (h.b x hx).cong hB (fun k _ => hM _ _ _ (by omega) (by omega) (by omega)) (by omega) (by omega) (by omega) (fun k h1 h2 => hf k (by omega))
  · exact h.w.cong b2 (fun c _ k _ => hM _ _ _ (by omega) (by omega) (by omega)) e2 (fun k h1 h2 => hf k (by omega))
  · intro j hj
    omega
  · exact h.q.cong b8 (fun k _ => hM _ _ _ (by omega) (by omega) (by omega)) e8 (fun k h1 h2 => hf k (by omega))
theorem RW.newCompany {B B' : Nat} {M M' : Mem} {w : Nat} {f f' : Row}  (h : RW B M w f) (hB : B ≤ B') (hM : ∀ r i k, r ≠ 17 → r < 18 → ¬ (((r = 6 ∨ r = 7 ∨ r = 8) ∧ i = cn f 2) ∨ (r = 1 ∧ k = 6)) → M' r w i k = M r w i k) (hf : ∀ k, ((k < 100 + 24 * cn f 2 ∧ k ≠ 2) ∨ (124 + 24 * cn f 2 ≤ k ∧ k < 1392 + 8 * cn f 2) ∨ 1400 + 8 * cn f 2 ≤ k) → f' k = f k) (hC : XC M' w f') (c2 : cn f' 2 = cn f 2 + 1) (X1 : XP1 B' M' w f' (cn f 2)) (XN' : XN M' w f') (XW' : XW M' w f') : RW B' M' w f' := by
  have g := h.c
  have b0 := g.b0
  have b1 := g.b1
  have b2 := g.b2
  have b3 := g.b3
  have b4 := g.b4
  have b5 := g.b5
  have b6 := g.b6
  have b7 := g.b7
  have b8 := g.b8
  have e0 : f' 0 = f 0 := hf 0 (by omega)
  have c0 : cn f' 0 = cn f 0 := cn_same e0
  have e1 : f' 1 = f 1 := hf 1 (by omega)
  have c1 : cn f' 1 = cn f 1 := cn_same e1
  have e3 : f' 3 = f 3 := hf 3 (by omega)
  have c3 : cn f' 3 = cn f 3 := cn_same e3
  have e4 : f' 4 = f 4 := hf 4 (by omega)
  have c4 : cn f' 4 = cn f 4 := cn_same e4
  have e5 : f' 5 = f 5 := hf 5 (by omega)
  have c5 : cn f' 5 = cn f 5 := cn_same e5
  have e6 : f' 6 = f 6 := hf 6 (by omega)
  have c6 : cn f' 6 = cn f 6 := cn_same e6
  have e7 : f' 7 = f 7 := hf 7 (by omega)
  have c7 : cn f' 7 = cn f 7 := cn_same e7
  have e8 : f' 8 = f 8 := hf 8 (by omega)
  have c8 : cn f' 8 = cn f 8 := cn_same e8
  have b2' : cn f' 2 ≤ 5 := hC.b2
  refine ⟨?_, ?_, ?_, ?_, ?_, ?_, ?_, ?_, ?_, ?_, ?_⟩
  · exact hC
  · intro x hx
    rw [c0] at hx
    exact (h.t x hx).cong hB (fun k _ => hM _ _ _ (by omega) (by omega) (by omega)) (fun k h1 h2 => hf k (by omega))
  · exact h.r.cong b1 (fun k _ => hM _ _ _ (by omega) (by omega) (by omega)) (by omega) e1 (fun k h1 h2 => hf k (by omega))
  · intro x hx
    by_cases e : x = cn f 2
    · subst e
      exact X1
    · have hx : x < cn f 2 := by omega
      exact (h.p x hx).cong hB (fun k _ _ _ => hM _ _ _ (by omega) (by omega) (by omega)) (fun k _ => hM _ _ _ (by omega) (by omega) (by omega)) (by omega) (fun k h1 h2 => hf k (by omega))
  · exact XN'
  · intro x hx
    rw [c3] at hx
    exact (h.l x hx).cong (fun k _ => hM _ _ _ (by omega) (by omega) (by omega)) (by omega) (by omega) (fun k h1 h2 => hf k (by omega))
  · intro x hx
    rw [c4] at hx
    exact (h.s x hx).cong (fun k _ => hM _ _ _ (by omega) (by omega) (by omega)) (fun k _ => hM _ _ _ (by omega) (by omega) (by omega)) (fun k h1 h2 => hf k (by omega))
  · intro x hx
    rw [c5] at hx
    exact (h.b x hx).cong hB (fun k _ => hM _ _ _ (by omega) (by omega) (by omega)) (by omega) (by omega) (by omega) (fun k h1 h2 => hf k (by omega))
  · exact XW'
  · exact h.a.cong b7 (fun k _ => hM _ _ _ (by omega) (by omega) (by omega)) e7 (fun k h1 h2 => hf k (by omega))
  · exact h.q.cong b8 (fun k _ => hM _ _ _ (by omega) (by omega) (by omega)) e8 (fun k h1 h2 => hf k (by omega))
/-- one count is another number -/
theorem XC.set {M M' : Mem} {w : Nat} {f f' : Row} (h : XC M w f) {j n : Nat} (hj : j < 9) (hn : n ≤ bdC j) (hM : ∀ k, k < 9 → k ≠ j → M' 1 w 0 (slC k) = M 1 w 0 (slC k)) (hf : ∀ k, k < 9 → k ≠ j → f' k = f k) (hm : M' 1 w 0 (slC j) = nI n) (he : f' j = nI n) : XC M' w f' := by
  intro k hk
  by_cases e : k = j
  · subst e
    have hb : bdC k ≤ 3000 := by
      rcases (by omega : k = 0 ∨ k = 1 ∨ k = 2 ∨ k = 3 ∨ k = 4 ∨ k = 5 ∨ k = 6 ∨ k = 7 ∨ k = 8) with rfl | rfl | rfl | rfl | rfl | rfl | rfl | rfl | rfl <;> decide
    have hc : cn f' k = n := cn_nI he (by omega)
    rw [hm, hc]
    exact ⟨he.symm, he, hn⟩
  · obtain ⟨h1, h2, h3⟩ := h k hk
    rw [hM k hk e, hf k hk e, cn_same (hf k hk e)]
    exact ⟨h1, h2, h3⟩
/-! what is written elsewhere -/
def sM (M M' : Mem) : Prop := ∀ r w i k, r ≠ 17 → r ≠ 24 → r ≠ 25 → w ≠ 2 → M' r w i k = M r w i k
def sN (N N' : Mem) : Prop := ∀ r k, (r = 41 ∨ r = 42 ∨ r = 44 ∨ r = 62 ∨ r = 64 ∨ r = 65 ∨ r = 66 ∨ (r = 40 ∧ (k = 4 ∨ k = 22))) → N' r 0 0 k = N r 0 0 k
theorem sM.rf {M : Mem} : sM M M := fun _ _ _ _ _ _ _ _ => rfl
theorem sN.rf {N : Mem} : sN N N := fun _ _ _ => rfl
theorem sM.tr {M M' M'' : Mem} (h : sM M M') (h2 : sM M' M'') : sM M M'' := fun r w i k a b c d => (h2 r w i k a b c d).trans (h r w i k a b c d)
theorem sN.tr {M M' M'' : Mem} (h : sN M M') (h2 : sN M' M'') : sN M M'' := fun r k a => (h2 r k a).trans (h r k a)
theorem RO.frame {M M' N N' : Mem} (h : RO M N) (hM : sM M M') (hN : sN N N') : RO M' N' := by
  obtain ⟨h1, h2, h3, h4, h5, h6⟩ := h
  have e4 : N' 40 0 0 4 = N 40 0 0 4 := hN 40 4 (by omega)
  have e22 : N' 40 0 0 22 = N 40 0 0 22 := hN 40 22 (by omega)
  refine ⟨?_, fun k hk => ?_, fun s hs => ?_, ?_, ?_, fun i hi => ?_⟩
  · rw [hM _ _ _ _ (by omega) (by omega) (by omega) (by omega), e4]; exact h1
  · rw [hM _ _ _ _ (by omega) (by omega) (by omega) (by omega), hN _ _ (by omega)]; exact h2 k hk
  · obtain ⟨q1, q2, q3, q4⟩ := h3 s hs
    rw [hM 19 _ _ _ (by omega) (by omega) (by omega) (by omega), hM 19 _ _ _ (by omega) (by omega) (by omega) (by omega), hN 64 _ (by omega), hN 65 _ (by omega)]
    refine ⟨q1, q2, q3, fun i hi => ?_⟩
    rw [hM _ _ _ _ (by omega) (by omega) (by omega) (by omega), hN _ _ (by omega)]
    exact q4 i hi
  · rw [hM _ _ _ _ (by omega) (by omega) (by omega) (by omega), e22]; exact h4
  · rw [e22]; exact h5
  · rw [cn_same (f := N 40 0 0) (f' := N' 40 0 0) e22] at hi
    rw [hM _ _ _ _ (by omega) (by omega) (by omega) (by omega), hN _ _ (by omega)]
    exact h6 i hi
theorem Rel.frame {B B' : Nat} {M M' N N' : Mem} (h : Rel B M N) (hB : B ≤ B') (hM : sM M M') (hN : sN N N') : Rel B' M' N' := by
  obtain ⟨h1, h2, h3⟩ := h
  have e41 : N' 41 0 0 = N 41 0 0 := funext fun k => hN 41 k (by omega)
  have e42 : N' 42 0 0 = N 42 0 0 := funext fun k => hN 42 k (by omega)
  refine ⟨?_, ?_, h3.frame hM hN⟩
  · rw [e41]
    exact h1.cong hB fun r i k h17 h18 => hM r 0 i k h17 (by omega) (by omega) (by omega)
  · rw [e42, hN 40 4 (by omega)]
    exact h2.imp id fun q => q.cong hB fun r i k h17 h18 => hM r 1 i k h17 (by omega) (by omega) (by omega)
theorem Rel.up1 {B : Nat} {M N : Mem} (h : Rel B M N) : Rel (B + 1) M N := h.frame (by omega) sM.rf sN.rf
/-- the world is another, all else stays -/
theorem Rel.world {B B' : Nat} {M M' N N' : Mem} (h : Rel B M N) (hB : B ≤ B') (hR : RW B' M' 0 (N' 41 0 0)) (hM : ∀ r w i k, r ≠ 17 → r ≠ 24 → r ≠ 25 → w ≠ 2 → (r = 0 ∨ 18 ≤ r ∨ w ≠ 0) → M' r w i k = M r w i k) (hN : ∀ r k, (r = 42 ∨ r = 44 ∨ r = 62 ∨ r = 64 ∨ r = 65 ∨ r = 66 ∨ (r = 40 ∧ (k = 4 ∨ k = 22))) → N' r 0 0 k = N r 0 0 k) : Rel B' M' N' := by
  obtain ⟨h1, h2, h3⟩ := h
  have e42 : N' 42 0 0 = N 42 0 0 := funext fun k => hN 42 k (by omega)
  refine ⟨hR, ?_, ?_⟩
  · rw [e42, hN 40 4 (by omega)]
    exact h2.imp id fun q => q.cong hB fun r i k h17 h18 => hM r 1 i k h17 (by omega) (by omega) (by omega) (by omega)
  · refine RO.frame (M := M) (M' := fun r w i k => if r = 0 ∨ 18 ≤ r then M' r w i k else M r w i k) (N := N) (N' := fun r w i k => if r = 41 then N r w i k else N' r w i k) h3 (fun r w i k a b c d => ?_) (fun r k a => ?_)
    · show (if r = 0 ∨ 18 ≤ r then M' r w i k else M r w i k) = M r w i k
      by_cases e : r = 0 ∨ 18 ≤ r
      · rw [if_pos e]
        exact hM r w i k a b c d (by omega)
      · rw [if_neg e]
    · show (if r = 41 then N r 0 0 k else N' r 0 0 k) = N r 0 0 k
      by_cases e : r = 41
      · rw [if_pos e]
      · rw [if_neg e]
        exact hN r k (by omega)
/-! findings -/
theorem RO.find {M N : Mem} (h : RO M N) {j : Nat} : RO (up M 26 0 0 j (M 26 0 0 j + 1)) (up N 44 0 0 j (N 44 0 0 j + 1)) ∨ 6 ≤ j := by
  by_cases hj : 6 ≤ j
  · exact .inr hj
  refine .inl ?_
  obtain ⟨h1, h2, h3, h4, h5, h6⟩ := h
  refine ⟨?_, fun k hk => ?_, fun s hs => ?_, ?_, ?_, fun i hi => ?_⟩
  · rw [upR (by decide), upR (by decide)]; exact h1
  · by_cases e : k = j
    · subst e
      rw [up_eq, up_eq, h2 k hk]
    · rw [up_ne (by omega), up_ne (by omega)]
      exact h2 k hk
  · rw [upR (by decide), upR (by decide), upR (by decide), upR (by decide)]
    obtain ⟨q1, q2, q3, q4⟩ := h3 s hs
    exact ⟨q1, q2, q3, fun i hi => by rw [upR (by decide), upR (by decide)]; exact q4 i hi⟩
  · rw [upR (by decide), upR (by decide)]; exact h4
  · rw [upR (by decide)]; exact h5
  · rw [upRr (by decide)] at hi
    rw [upR (by decide), upR (by decide)]
    exact h6 i hi
theorem Rel.find {B : Nat} {M N : Mem} (h : Rel B M N) {j : Nat} (hj : j < 6) : Rel (B + 1) (up M 26 0 0 j (M 26 0 0 j + 1)) (up N 44 0 0 j (N 44 0 0 j + 1)) := by
  obtain ⟨h1, h2, h3⟩ := h
  refine ⟨?_, ?_, h3.find.resolve_right (by omega)⟩
  · rw [upRr (by decide)]
    exact h1.cong (by omega) fun r i k h17 h18 => upR (by omega)
  · rw [upRr (by decide), upRr (by decide)]
    exact h2.imp id fun q => q.cong (by omega) fun r i k h17 h18 => upR (by omega)
theorem Sim.find {B : Nat} {M N : Mem} (h : Rel B M N) {k : Nat} (hk : k < 6) : Sim (Rel (B + 1)) (mF_finding (nI k) M) (mK_finds (nI k) N) := by
  rw [F_finding_eq hk, K_finds_eq hk]
  exact Sim.ret (h.find hk)
theorem Sim.f1 {B : Nat} {M N : Mem} (h : Rel B M N) : Sim (Rel (B + 1)) (mF_finding 1 M) (mK_finds 1 N) := Sim.find h (k := 1) (by decide)
theorem Sim.f2 {B : Nat} {M N : Mem} (h : Rel B M N) : Sim (Rel (B + 1)) (mF_finding 2 M) (mK_finds 2 N) := Sim.find h (k := 2) (by decide)
theorem Sim.f3 {B : Nat} {M N : Mem} (h : Rel B M N) : Sim (Rel (B + 1)) (mF_finding 3 M) (mK_finds 3 N) := Sim.find h (k := 3) (by decide)
theorem Sim.f4 {B : Nat} {M N : Mem} (h : Rel B M N) : Sim (Rel (B + 1)) (mF_finding 4 M) (mK_finds 4 N) := Sim.find h (k := 4) (by decide)
theorem Sim.f5 {B : Nat} {M N : Mem} (h : Rel B M N) : Sim (Rel (B + 1)) (mF_finding 5 M) (mK_finds 5 N) := Sim.find h (k := 5) (by decide)
