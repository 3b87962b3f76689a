/-! ===== small methods as plain facts ===== -/
theorem ix3 (a b t k : Nat) : nI a + nI b * nI t + nI k = nI (a + b * t + k) := by rw [pk_mul, nI_add, nI_add]
theorem ix2 (a b t : Nat) : nI a + nI b * nI t = nI (a + b * t) := by rw [pk_mul, nI_add]
theorem iT0 {α : Type} {F : Nat → Option α} {t : Nat} (ht : t < 8) : ixx (20 + (4 * nI t)) 1502 F = F (20 + 4 * t) := ixx_e (ix2 20 4 t) (by omega) (by decide)
theorem iTz {α : Type} {F : Nat → Option α} {t : Nat} (ht : t < 8) : ixx ((20 + (4 * nI t)) + 0) 1502 F = F (20 + 4 * t) := ixx_e (ix3 20 4 t 0) (by omega) (by decide)
theorem iT1 {α : Type} {F : Nat → Option α} {t : Nat} (ht : t < 8) : ixx ((20 + (4 * nI t)) + 1) 1502 F = F (20 + 4 * t + 1) := ixx_e (ix3 20 4 t 1) (by omega) (by decide)
theorem iT2 {α : Type} {F : Nat → Option α} {t : Nat} (ht : t < 8) : ixx ((20 + (4 * nI t)) + 2) 1502 F = F (20 + 4 * t + 2) := ixx_e (ix3 20 4 t 2) (by omega) (by decide)
theorem iT3 {α : Type} {F : Nat → Option α} {t : Nat} (ht : t < 8) : ixx ((20 + (4 * nI t)) + 3) 1502 F = F (20 + 4 * t + 3) := ixx_e (ix3 20 4 t 3) (by omega) (by decide)
theorem iR0 {α : Type} {F : Nat → Option α} {t : Nat} (ht : t < 16) : ixx (52 + (3 * nI t)) 1502 F = F (52 + 3 * t) := ixx_e (ix2 52 3 t) (by omega) (by decide)
theorem iRz {α : Type} {F : Nat → Option α} {t : Nat} (ht : t < 16) : ixx ((52 + (3 * nI t)) + 0) 1502 F = F (52 + 3 * t) := ixx_e (ix3 52 3 t 0) (by omega) (by decide)
theorem iR1 {α : Type} {F : Nat → Option α} {t : Nat} (ht : t < 16) : ixx ((52 + (3 * nI t)) + 1) 1502 F = F (52 + 3 * t + 1) := ixx_e (ix3 52 3 t 1) (by omega) (by decide)
theorem iR2 {α : Type} {F : Nat → Option α} {t : Nat} (ht : t < 16) : ixx ((52 + (3 * nI t)) + 2) 1502 F = F (52 + 3 * t + 2) := ixx_e (ix3 52 3 t 2) (by omega) (by decide)
theorem iC0 {α : Type} {F : Nat → Option α} {t : Nat} (ht : t < 5) : ixx (100 + (24 * nI t)) 1502 F = F (100 + 24 * t) := ixx_e (ix2 100 24 t) (by omega) (by decide)
theorem iCz {α : Type} {F : Nat → Option α} {t : Nat} (ht : t < 5) : ixx ((100 + (24 * nI t)) + 0) 1502 F = F (100 + 24 * t) := ixx_e (ix3 100 24 t 0) (by omega) (by decide)
theorem iC1 {α : Type} {F : Nat → Option α} {t : Nat} (ht : t < 5) : ixx ((100 + (24 * nI t)) + 1) 1502 F = F (100 + 24 * t + 1) := ixx_e (ix3 100 24 t 1) (by omega) (by decide)
theorem iC2 {α : Type} {F : Nat → Option α} {t : Nat} (ht : t < 5) : ixx ((100 + (24 * nI t)) + 2) 1502 F = F (100 + 24 * t + 2) := ixx_e (ix3 100 24 t 2) (by omega) (by decide)
theorem iC3 {α : Type} {F : Nat → Option α} {t : Nat} (ht : t < 5) : ixx ((100 + (24 * nI t)) + 3) 1502 F = F (100 + 24 * t + 3) := ixx_e (ix3 100 24 t 3) (by omega) (by decide)
theorem iC4 {α : Type} {F : Nat → Option α} {t : Nat} (ht : t < 5) : ixx ((100 + (24 * nI t)) + 4) 1502 F = F (100 + 24 * t + 4) := ixx_e (ix3 100 24 t 4) (by omega) (by decide)
theorem iC5 {α : Type} {F : Nat → Option α} {t : Nat} (ht : t < 5) : ixx ((100 + (24 * nI t)) + 5) 1502 F = F (100 + 24 * t + 5) := ixx_e (ix3 100 24 t 5) (by omega) (by decide)
theorem iC6 {α : Type} {F : Nat → Option α} {t : Nat} (ht : t < 5) : ixx ((100 + (24 * nI t)) + 6) 1502 F = F (100 + 24 * t + 6) := ixx_e (ix3 100 24 t 6) (by omega) (by decide)
theorem iC7 {α : Type} {F : Nat → Option α} {t : Nat} (ht : t < 5) : ixx ((100 + (24 * nI t)) + 7) 1502 F = F (100 + 24 * t + 7) := ixx_e (ix3 100 24 t 7) (by omega) (by decide)
theorem iC8 {α : Type} {F : Nat → Option α} {t : Nat} (ht : t < 5) : ixx ((100 + (24 * nI t)) + 8) 1502 F = F (100 + 24 * t + 8) := ixx_e (ix3 100 24 t 8) (by omega) (by decide)
theorem iC9 {α : Type} {F : Nat → Option α} {t : Nat} (ht : t < 5) : ixx ((100 + (24 * nI t)) + 9) 1502 F = F (100 + 24 * t + 9) := ixx_e (ix3 100 24 t 9) (by omega) (by decide)
theorem iL0 {α : Type} {F : Nat → Option α} {t : Nat} (ht : t < 40) : ixx (220 + (5 * nI t)) 1502 F = F (220 + 5 * t) := ixx_e (ix2 220 5 t) (by omega) (by decide)
theorem iLz {α : Type} {F : Nat → Option α} {t : Nat} (ht : t < 40) : ixx ((220 + (5 * nI t)) + 0) 1502 F = F (220 + 5 * t) := ixx_e (ix3 220 5 t 0) (by omega) (by decide)
theorem iL1 {α : Type} {F : Nat → Option α} {t : Nat} (ht : t < 40) : ixx ((220 + (5 * nI t)) + 1) 1502 F = F (220 + 5 * t + 1) := ixx_e (ix3 220 5 t 1) (by omega) (by decide)
theorem iL2 {α : Type} {F : Nat → Option α} {t : Nat} (ht : t < 40) : ixx ((220 + (5 * nI t)) + 2) 1502 F = F (220 + 5 * t + 2) := ixx_e (ix3 220 5 t 2) (by omega) (by decide)
theorem iL3 {α : Type} {F : Nat → Option α} {t : Nat} (ht : t < 40) : ixx ((220 + (5 * nI t)) + 3) 1502 F = F (220 + 5 * t + 3) := ixx_e (ix3 220 5 t 3) (by omega) (by decide)
theorem iL4 {α : Type} {F : Nat → Option α} {t : Nat} (ht : t < 40) : ixx ((220 + (5 * nI t)) + 4) 1502 F = F (220 + 5 * t + 4) := ixx_e (ix3 220 5 t 4) (by omega) (by decide)
theorem iS0 {α : Type} {F : Nat → Option α} {t : Nat} (ht : t < 12) : ixx (420 + (53 * nI t)) 1502 F = F (420 + 53 * t) := ixx_e (ix2 420 53 t) (by omega) (by decide)
theorem iSz {α : Type} {F : Nat → Option α} {t : Nat} (ht : t < 12) : ixx ((420 + (53 * nI t)) + 0) 1502 F = F (420 + 53 * t) := ixx_e (ix3 420 53 t 0) (by omega) (by decide)
theorem iS1 {α : Type} {F : Nat → Option α} {t : Nat} (ht : t < 12) : ixx ((420 + (53 * nI t)) + 1) 1502 F = F (420 + 53 * t + 1) := ixx_e (ix3 420 53 t 1) (by omega) (by decide)
theorem iS2 {α : Type} {F : Nat → Option α} {t : Nat} (ht : t < 12) : ixx ((420 + (53 * nI t)) + 2) 1502 F = F (420 + 53 * t + 2) := ixx_e (ix3 420 53 t 2) (by omega) (by decide)
theorem iS3 {α : Type} {F : Nat → Option α} {t : Nat} (ht : t < 12) : ixx ((420 + (53 * nI t)) + 3) 1502 F = F (420 + 53 * t + 3) := ixx_e (ix3 420 53 t 3) (by omega) (by decide)
theorem iB0 {α : Type} {F : Nat → Option α} {t : Nat} (ht : t < 24) : ixx (1056 + (14 * nI t)) 1502 F = F (1056 + 14 * t) := ixx_e (ix2 1056 14 t) (by omega) (by decide)
theorem iBz {α : Type} {F : Nat → Option α} {t : Nat} (ht : t < 24) : ixx ((1056 + (14 * nI t)) + 0) 1502 F = F (1056 + 14 * t) := ixx_e (ix3 1056 14 t 0) (by omega) (by decide)
theorem iB1 {α : Type} {F : Nat → Option α} {t : Nat} (ht : t < 24) : ixx ((1056 + (14 * nI t)) + 1) 1502 F = F (1056 + 14 * t + 1) := ixx_e (ix3 1056 14 t 1) (by omega) (by decide)
theorem iB2 {α : Type} {F : Nat → Option α} {t : Nat} (ht : t < 24) : ixx ((1056 + (14 * nI t)) + 2) 1502 F = F (1056 + 14 * t + 2) := ixx_e (ix3 1056 14 t 2) (by omega) (by decide)
theorem iB3 {α : Type} {F : Nat → Option α} {t : Nat} (ht : t < 24) : ixx ((1056 + (14 * nI t)) + 3) 1502 F = F (1056 + 14 * t + 3) := ixx_e (ix3 1056 14 t 3) (by omega) (by decide)
theorem iB4 {α : Type} {F : Nat → Option α} {t : Nat} (ht : t < 24) : ixx ((1056 + (14 * nI t)) + 4) 1502 F = F (1056 + 14 * t + 4) := ixx_e (ix3 1056 14 t 4) (by omega) (by decide)
theorem iB5 {α : Type} {F : Nat → Option α} {t : Nat} (ht : t < 24) : ixx ((1056 + (14 * nI t)) + 5) 1502 F = F (1056 + 14 * t + 5) := ixx_e (ix3 1056 14 t 5) (by omega) (by decide)
theorem iB6 {α : Type} {F : Nat → Option α} {t : Nat} (ht : t < 24) : ixx ((1056 + (14 * nI t)) + 6) 1502 F = F (1056 + 14 * t + 6) := ixx_e (ix3 1056 14 t 6) (by omega) (by decide)
theorem iB7 {α : Type} {F : Nat → Option α} {t : Nat} (ht : t < 24) : ixx ((1056 + (14 * nI t)) + 7) 1502 F = F (1056 + 14 * t + 7) := ixx_e (ix3 1056 14 t 7) (by omega) (by decide)
theorem iB8 {α : Type} {F : Nat → Option α} {t : Nat} (ht : t < 24) : ixx ((1056 + (14 * nI t)) + 8) 1502 F = F (1056 + 14 * t + 8) := ixx_e (ix3 1056 14 t 8) (by omega) (by decide)
theorem iB9 {α : Type} {F : Nat → Option α} {t : Nat} (ht : t < 24) : ixx ((1056 + (14 * nI t)) + 9) 1502 F = F (1056 + 14 * t + 9) := ixx_e (ix3 1056 14 t 9) (by omega) (by decide)
theorem iB10 {α : Type} {F : Nat → Option α} {t : Nat} (ht : t < 24) : ixx ((1056 + (14 * nI t)) + 10) 1502 F = F (1056 + 14 * t + 10) := ixx_e (ix3 1056 14 t 10) (by omega) (by decide)
theorem iB11 {α : Type} {F : Nat → Option α} {t : Nat} (ht : t < 24) : ixx ((1056 + (14 * nI t)) + 11) 1502 F = F (1056 + 14 * t + 11) := ixx_e (ix3 1056 14 t 11) (by omega) (by decide)
theorem K_ofTown_0 {t : Nat} {N : Mem} (ht : t < 8) : mK_ofTown (nI t) 0 N = some (N 41 0 0 (20 + 4 * t), N) := by
  unfold mK_ofTown
  exact iTz ht
theorem K_ofTown_1 {t : Nat} {N : Mem} (ht : t < 8) : mK_ofTown (nI t) 1 N = some (N 41 0 0 (20 + 4 * t + 1), N) := by
  unfold mK_ofTown
  exact iT1 ht
theorem K_ofTown_2 {t : Nat} {N : Mem} (ht : t < 8) : mK_ofTown (nI t) 2 N = some (N 41 0 0 (20 + 4 * t + 2), N) := by
  unfold mK_ofTown
  exact iT2 ht
theorem K_ofTown_3 {t : Nat} {N : Mem} (ht : t < 8) : mK_ofTown (nI t) 3 N = some (N 41 0 0 (20 + 4 * t + 3), N) := by
  unfold mK_ofTown
  exact iT3 ht
theorem K_ofTown_n {t k : Nat} {N : Mem} (ht : t < 8) (hk : k < 4) : mK_ofTown (nI t) (nI k) N = some (N 41 0 0 (20 + 4 * t + k), N) := by
  unfold mK_ofTown
  exact ixx_e (ix3 20 4 t k) (by omega) (by decide)
theorem K_own_0 {t : Nat} {N : Mem} (ht : t < 5) : mK_own (nI t) 0 N = some (N 41 0 0 (100 + 24 * t), N) := by
  unfold mK_own
  exact iCz ht
theorem K_own_1 {t : Nat} {N : Mem} (ht : t < 5) : mK_own (nI t) 1 N = some (N 41 0 0 (100 + 24 * t + 1), N) := by
  unfold mK_own
  exact iC1 ht
theorem K_own_2 {t : Nat} {N : Mem} (ht : t < 5) : mK_own (nI t) 2 N = some (N 41 0 0 (100 + 24 * t + 2), N) := by
  unfold mK_own
  exact iC2 ht
theorem K_own_3 {t : Nat} {N : Mem} (ht : t < 5) : mK_own (nI t) 3 N = some (N 41 0 0 (100 + 24 * t + 3), N) := by
  unfold mK_own
  exact iC3 ht
theorem K_own_4 {t : Nat} {N : Mem} (ht : t < 5) : mK_own (nI t) 4 N = some (N 41 0 0 (100 + 24 * t + 4), N) := by
  unfold mK_own
  exact iC4 ht
theorem K_own_5 {t : Nat} {N : Mem} (ht : t < 5) : mK_own (nI t) 5 N = some (N 41 0 0 (100 + 24 * t + 5), N) := by
  unfold mK_own
  exact iC5 ht
theorem K_own_6 {t : Nat} {N : Mem} (ht : t < 5) : mK_own (nI t) 6 N = some (N 41 0 0 (100 + 24 * t + 6), N) := by
  unfold mK_own
  exact iC6 ht
theorem K_own_7 {t : Nat} {N : Mem} (ht : t < 5) : mK_own (nI t) 7 N = some (N 41 0 0 (100 + 24 * t + 7), N) := by
  unfold mK_own
  exact iC7 ht
theorem K_own_8 {t : Nat} {N : Mem} (ht : t < 5) : mK_own (nI t) 8 N = some (N 41 0 0 (100 + 24 * t + 8), N) := by
  unfold mK_own
  exact iC8 ht
theorem K_own_9 {t : Nat} {N : Mem} (ht : t < 5) : mK_own (nI t) 9 N = some (N 41 0 0 (100 + 24 * t + 9), N) := by
  unfold mK_own
  exact iC9 ht
theorem K_own_n {t k : Nat} {N : Mem} (ht : t < 5) (hk : k < 24) : mK_own (nI t) (nI k) N = some (N 41 0 0 (100 + 24 * t + k), N) := by
  unfold mK_own
  exact ixx_e (ix3 100 24 t k) (by omega) (by decide)
theorem K_its_0 {t : Nat} {N : Mem} (ht : t < 40) : mK_its (nI t) 0 N = some (N 41 0 0 (220 + 5 * t), N) := by
  unfold mK_its
  exact iLz ht
theorem K_its_1 {t : Nat} {N : Mem} (ht : t < 40) : mK_its (nI t) 1 N = some (N 41 0 0 (220 + 5 * t + 1), N) := by
  unfold mK_its
  exact iL1 ht
theorem K_its_2 {t : Nat} {N : Mem} (ht : t < 40) : mK_its (nI t) 2 N = some (N 41 0 0 (220 + 5 * t + 2), N) := by
  unfold mK_its
  exact iL2 ht
theorem K_its_3 {t : Nat} {N : Mem} (ht : t < 40) : mK_its (nI t) 3 N = some (N 41 0 0 (220 + 5 * t + 3), N) := by
  unfold mK_its
  exact iL3 ht
theorem K_its_4 {t : Nat} {N : Mem} (ht : t < 40) : mK_its (nI t) 4 N = some (N 41 0 0 (220 + 5 * t + 4), N) := by
  unfold mK_its
  exact iL4 ht
theorem K_its_n {t k : Nat} {N : Mem} (ht : t < 40) (hk : k < 5) : mK_its (nI t) (nI k) N = some (N 41 0 0 (220 + 5 * t + k), N) := by
  unfold mK_its
  exact ixx_e (ix3 220 5 t k) (by omega) (by decide)
theorem K_bond_0 {t : Nat} {N : Mem} (ht : t < 24) : mK_bond (nI t) 0 N = some (N 41 0 0 (1056 + 14 * t), N) := by
  unfold mK_bond
  exact iBz ht
theorem K_bond_1 {t : Nat} {N : Mem} (ht : t < 24) : mK_bond (nI t) 1 N = some (N 41 0 0 (1056 + 14 * t + 1), N) := by
  unfold mK_bond
  exact iB1 ht
theorem K_bond_2 {t : Nat} {N : Mem} (ht : t < 24) : mK_bond (nI t) 2 N = some (N 41 0 0 (1056 + 14 * t + 2), N) := by
  unfold mK_bond
  exact iB2 ht
theorem K_bond_3 {t : Nat} {N : Mem} (ht : t < 24) : mK_bond (nI t) 3 N = some (N 41 0 0 (1056 + 14 * t + 3), N) := by
  unfold mK_bond
  exact iB3 ht
theorem K_bond_4 {t : Nat} {N : Mem} (ht : t < 24) : mK_bond (nI t) 4 N = some (N 41 0 0 (1056 + 14 * t + 4), N) := by
  unfold mK_bond
  exact iB4 ht
theorem K_bond_5 {t : Nat} {N : Mem} (ht : t < 24) : mK_bond (nI t) 5 N = some (N 41 0 0 (1056 + 14 * t + 5), N) := by
  unfold mK_bond
  exact iB5 ht
theorem K_bond_6 {t : Nat} {N : Mem} (ht : t < 24) : mK_bond (nI t) 6 N = some (N 41 0 0 (1056 + 14 * t + 6), N) := by
  unfold mK_bond
  exact iB6 ht
theorem K_bond_7 {t : Nat} {N : Mem} (ht : t < 24) : mK_bond (nI t) 7 N = some (N 41 0 0 (1056 + 14 * t + 7), N) := by
  unfold mK_bond
  exact iB7 ht
theorem K_bond_8 {t : Nat} {N : Mem} (ht : t < 24) : mK_bond (nI t) 8 N = some (N 41 0 0 (1056 + 14 * t + 8), N) := by
  unfold mK_bond
  exact iB8 ht
theorem K_bond_9 {t : Nat} {N : Mem} (ht : t < 24) : mK_bond (nI t) 9 N = some (N 41 0 0 (1056 + 14 * t + 9), N) := by
  unfold mK_bond
  exact iB9 ht
theorem K_bond_10 {t : Nat} {N : Mem} (ht : t < 24) : mK_bond (nI t) 10 N = some (N 41 0 0 (1056 + 14 * t + 10), N) := by
  unfold mK_bond
  exact iB10 ht
theorem K_bond_11 {t : Nat} {N : Mem} (ht : t < 24) : mK_bond (nI t) 11 N = some (N 41 0 0 (1056 + 14 * t + 11), N) := by
  unfold mK_bond
  exact iB11 ht
theorem K_bond_n {t k : Nat} {N : Mem} (ht : t < 24) (hk : k < 14) : mK_bond (nI t) (nI k) N = some (N 41 0 0 (1056 + 14 * t + k), N) := by
  unfold mK_bond
  exact ixx_e (ix3 1056 14 t k) (by omega) (by decide)
theorem K_townGets_0 {t : Nat} {v : Int32} {N : Mem} (ht : t < 8) : mK_townGets (nI t) 0 v N = some (up N 41 0 0 (20 + 4 * t) (N 41 0 0 (20 + 4 * t) + v)) := by
  unfold mK_townGets
  rw [iTz ht, iTz ht]
theorem K_townGets_1 {t : Nat} {v : Int32} {N : Mem} (ht : t < 8) : mK_townGets (nI t) 1 v N = some (up N 41 0 0 (20 + 4 * t + 1) (N 41 0 0 (20 + 4 * t + 1) + v)) := by
  unfold mK_townGets
  rw [iT1 ht, iT1 ht]
theorem K_sets_0 {t : Nat} {v : Int32} {N : Mem} (ht : t < 5) : mK_sets (nI t) 0 v N = some (up N 41 0 0 (100 + 24 * t) v) := by
  unfold mK_sets
  rw [iCz ht]
theorem K_sets_1 {t : Nat} {v : Int32} {N : Mem} (ht : t < 5) : mK_sets (nI t) 1 v N = some (up N 41 0 0 (100 + 24 * t + 1) v) := by
  unfold mK_sets
  rw [iC1 ht]
theorem K_sets_2 {t : Nat} {v : Int32} {N : Mem} (ht : t < 5) : mK_sets (nI t) 2 v N = some (up N 41 0 0 (100 + 24 * t + 2) v) := by
  unfold mK_sets
  rw [iC2 ht]
theorem K_sets_3 {t : Nat} {v : Int32} {N : Mem} (ht : t < 5) : mK_sets (nI t) 3 v N = some (up N 41 0 0 (100 + 24 * t + 3) v) := by
  unfold mK_sets
  rw [iC3 ht]
theorem K_sets_4 {t : Nat} {v : Int32} {N : Mem} (ht : t < 5) : mK_sets (nI t) 4 v N = some (up N 41 0 0 (100 + 24 * t + 4) v) := by
  unfold mK_sets
  rw [iC4 ht]
theorem K_sets_5 {t : Nat} {v : Int32} {N : Mem} (ht : t < 5) : mK_sets (nI t) 5 v N = some (up N 41 0 0 (100 + 24 * t + 5) v) := by
  unfold mK_sets
  rw [iC5 ht]
theorem K_sets_6 {t : Nat} {v : Int32} {N : Mem} (ht : t < 5) : mK_sets (nI t) 6 v N = some (up N 41 0 0 (100 + 24 * t + 6) v) := by
  unfold mK_sets
  rw [iC6 ht]
theorem K_sets_7 {t : Nat} {v : Int32} {N : Mem} (ht : t < 5) : mK_sets (nI t) 7 v N = some (up N 41 0 0 (100 + 24 * t + 7) v) := by
  unfold mK_sets
  rw [iC7 ht]
theorem K_sets_8 {t : Nat} {v : Int32} {N : Mem} (ht : t < 5) : mK_sets (nI t) 8 v N = some (up N 41 0 0 (100 + 24 * t + 8) v) := by
  unfold mK_sets
  rw [iC8 ht]
theorem K_sets_9 {t : Nat} {v : Int32} {N : Mem} (ht : t < 5) : mK_sets (nI t) 9 v N = some (up N 41 0 0 (100 + 24 * t + 9) v) := by
  unfold mK_sets
  rw [iC9 ht]
theorem K_sets_n {t k : Nat} {v : Int32} {N : Mem} (ht : t < 5) (hk : k < 24) : mK_sets (nI t) (nI k) v N = some (up N 41 0 0 (100 + 24 * t + k) v) := by
  unfold mK_sets
  exact ixx_e (ix3 100 24 t k) (by omega) (by decide)
theorem K_writes_0 {t : Nat} {v : Int32} {N : Mem} (ht : t < 24) : mK_writes (nI t) 0 v N = some (up N 41 0 0 (1056 + 14 * t) v) := by
  unfold mK_writes
  rw [iBz ht]
theorem K_writes_1 {t : Nat} {v : Int32} {N : Mem} (ht : t < 24) : mK_writes (nI t) 1 v N = some (up N 41 0 0 (1056 + 14 * t + 1) v) := by
  unfold mK_writes
  rw [iB1 ht]
theorem K_writes_2 {t : Nat} {v : Int32} {N : Mem} (ht : t < 24) : mK_writes (nI t) 2 v N = some (up N 41 0 0 (1056 + 14 * t + 2) v) := by
  unfold mK_writes
  rw [iB2 ht]
theorem K_writes_3 {t : Nat} {v : Int32} {N : Mem} (ht : t < 24) : mK_writes (nI t) 3 v N = some (up N 41 0 0 (1056 + 14 * t + 3) v) := by
  unfold mK_writes
  rw [iB3 ht]
theorem K_writes_4 {t : Nat} {v : Int32} {N : Mem} (ht : t < 24) : mK_writes (nI t) 4 v N = some (up N 41 0 0 (1056 + 14 * t + 4) v) := by
  unfold mK_writes
  rw [iB4 ht]
theorem K_writes_5 {t : Nat} {v : Int32} {N : Mem} (ht : t < 24) : mK_writes (nI t) 5 v N = some (up N 41 0 0 (1056 + 14 * t + 5) v) := by
  unfold mK_writes
  rw [iB5 ht]
theorem K_writes_6 {t : Nat} {v : Int32} {N : Mem} (ht : t < 24) : mK_writes (nI t) 6 v N = some (up N 41 0 0 (1056 + 14 * t + 6) v) := by
  unfold mK_writes
  rw [iB6 ht]
theorem K_writes_7 {t : Nat} {v : Int32} {N : Mem} (ht : t < 24) : mK_writes (nI t) 7 v N = some (up N 41 0 0 (1056 + 14 * t + 7) v) := by
  unfold mK_writes
  rw [iB7 ht]
theorem K_writes_8 {t : Nat} {v : Int32} {N : Mem} (ht : t < 24) : mK_writes (nI t) 8 v N = some (up N 41 0 0 (1056 + 14 * t + 8) v) := by
  unfold mK_writes
  rw [iB8 ht]
theorem K_writes_9 {t : Nat} {v : Int32} {N : Mem} (ht : t < 24) : mK_writes (nI t) 9 v N = some (up N 41 0 0 (1056 + 14 * t + 9) v) := by
  unfold mK_writes
  rw [iB9 ht]
theorem K_writes_10 {t : Nat} {v : Int32} {N : Mem} (ht : t < 24) : mK_writes (nI t) 10 v N = some (up N 41 0 0 (1056 + 14 * t + 10) v) := by
  unfold mK_writes
  rw [iB10 ht]
theorem K_writes_11 {t : Nat} {v : Int32} {N : Mem} (ht : t < 24) : mK_writes (nI t) 11 v N = some (up N 41 0 0 (1056 + 14 * t + 11) v) := by
  unfold mK_writes
  rw [iB11 ht]
theorem K_turns_eq {t : Nat} {v : Int32} {N : Mem} (ht : t < 40) : mK_turns (nI t) v N = some (up N 41 0 0 (220 + 5 * t + 3) v) := by
  unfold mK_turns
  rw [iL3 ht]
theorem F_isTown_eq {M : Mem} {f : Row} (h : XC M 0 f) (x : Int32) : mF_isTown x M = some (bI (0 ≤ x ∧ x ≤ f 0 - 1), M) := by
  unfold mF_isTown
  rw [h.e0, F_within_eq]
  simp only [Option.bind_some, bI_ret]
theorem K_isTown_eq (N : Mem) (x : Int32) : mK_isTown x N = some (bI (0 ≤ x ∧ x ≤ N 41 0 0 0 - 1), N) := by
  unfold mK_isTown
  rw [K_in_eq]
  simp only [Option.bind_some, bI_ret]
theorem XC.in0 {M : Mem} {w : Nat} {f : Row} (h : XC M w f) {x : Int32} (hx : 0 ≤ x ∧ x ≤ f 0 - 1) : isN x (cn f 0) := by
  have b := h.b0
  rw [h.n0] at hx
  exact (in_cnt (by omega)).mp hx
theorem F_isCompany_eq {M : Mem} {f : Row} (h : XC M 0 f) (x : Int32) : mF_isCompany x M = some (bI (0 ≤ x ∧ x ≤ f 2 - 1), M) := by
  unfold mF_isCompany
  rw [h.e2, F_within_eq]
  simp only [Option.bind_some, bI_ret]
theorem K_isCompany_eq (N : Mem) (x : Int32) : mK_isCompany x N = some (bI (0 ≤ x ∧ x ≤ N 41 0 0 2 - 1), N) := by
  unfold mK_isCompany
  rw [K_in_eq]
  simp only [Option.bind_some, bI_ret]
theorem XC.in2 {M : Mem} {w : Nat} {f : Row} (h : XC M w f) {x : Int32} (hx : 0 ≤ x ∧ x ≤ f 2 - 1) : isN x (cn f 2) := by
  have b := h.b2
  rw [h.n2] at hx
  exact (in_cnt (by omega)).mp hx
theorem F_isLance_eq {M : Mem} {f : Row} (h : XC M 0 f) (x : Int32) : mF_isLance x M = some (bI (0 ≤ x ∧ x ≤ f 3 - 1), M) := by
  unfold mF_isLance
  rw [h.e3, F_within_eq]
  simp only [Option.bind_some, bI_ret]
theorem K_isLance_eq (N : Mem) (x : Int32) : mK_isLance x N = some (bI (0 ≤ x ∧ x ≤ N 41 0 0 3 - 1), N) := by
  unfold mK_isLance
  rw [K_in_eq]
  simp only [Option.bind_some, bI_ret]
theorem XC.in3 {M : Mem} {w : Nat} {f : Row} (h : XC M w f) {x : Int32} (hx : 0 ≤ x ∧ x ≤ f 3 - 1) : isN x (cn f 3) := by
  have b := h.b3
  rw [h.n3] at hx
  exact (in_cnt (by omega)).mp hx
theorem F_isBond_eq {M : Mem} {f : Row} (h : XC M 0 f) (x : Int32) : mF_isBond x M = some (bI (0 ≤ x ∧ x ≤ f 5 - 1), M) := by
  unfold mF_isBond
  rw [h.e5, F_within_eq]
  simp only [Option.bind_some, bI_ret]
theorem K_isBond_eq (N : Mem) (x : Int32) : mK_isBond x N = some (bI (0 ≤ x ∧ x ≤ N 41 0 0 5 - 1), N) := by
  unfold mK_isBond
  rw [K_in_eq]
  simp only [Option.bind_some, bI_ret]
theorem XC.in5 {M : Mem} {w : Nat} {f : Row} (h : XC M w f) {x : Int32} (hx : 0 ≤ x ∧ x ≤ f 5 - 1) : isN x (cn f 5) := by
  have b := h.b5
  rw [h.n5] at hx
  exact (in_cnt (by omega)).mp hx
theorem XC.in4 {M : Mem} {w : Nat} {f : Row} (h : XC M w f) {x : Int32} (hx : 0 ≤ x ∧ x ≤ f 4 - 1) : isN x (cn f 4) := by
  have b := h.b4
  rw [h.n4] at hx
  exact (in_cnt (by omega)).mp hx
theorem F_isMark_eq (x : Int32) (M : Mem) : mF_isMark x M = some (bI (0 ≤ x ∧ x ≤ 99), M) := by
  unfold mF_isMark
  rw [F_within_eq]
  simp only [Option.bind_some, bI_ret]
theorem F_isUse_eq (x : Int32) (M : Mem) : mF_isUse x M = some (bI (0 ≤ x ∧ x ≤ 3), M) := by
  unfold mF_isUse
  rw [F_within_eq]
  simp only [Option.bind_some, bI_ret]
theorem F_isDay_eq (x : Int32) (M : Mem) : mF_isDay x M = some (bI (0 ≤ x ∧ x ≤ 3000), M) := by
  unfold mF_isDay
  rw [F_within_eq]
  simp only [Option.bind_some, bI_ret]
theorem K_isDay_eq (x : Int32) (M : Mem) : mK_isDay x M = some (bI (0 ≤ x ∧ x ≤ 3000), M) := by
  unfold mK_isDay
  rw [K_in_eq]
  simp only [Option.bind_some, bI_ret]
theorem F_isSheet_eq (x : Int32) (M : Mem) : mF_isSheet x M = some (bI (0 ≤ x ∧ x ≤ 3), M) := by
  unfold mF_isSheet
  rw [F_within_eq]
  simp only [Option.bind_some, bI_ret]
theorem K_isSheet_eq (x : Int32) (M : Mem) : mK_isSheet x M = some (bI (0 ≤ x ∧ x ≤ 3), M) := by
  unfold mK_isSheet
  rw [K_in_eq]
  simp only [Option.bind_some, bI_ret]
theorem C_marches_eq (w i : Nat) (M : Mem) : mC_marches w i M = some (bI (M 6 w i 3 < 0), M) := by
  unfold mC_marches bI
  split <;> rfl
theorem B_isContract_eq (w i : Nat) (M : Mem) : mB_isContract w i M = some (bI (M 15 w i 0 = 1 ∨ M 15 w i 0 = 2), M) := by
  unfold mB_isContract bI
  by_cases h1 : M 15 w i 0 = 1
  · simp [h1]
  · by_cases h2 : M 15 w i 0 = 2
    · simp [h2]
    · simp [h1, h2]
theorem B_isContractOf_eq (w i : Nat) (c : Int32) (M : Mem) : mB_isContractOf w i c M = some (bI ((M 15 w i 0 = 1 ∨ M 15 w i 0 = 2) ∧ M 15 w i 1 = c), M) := by
  unfold mB_isContractOf
  rw [B_isContract_eq]
  simp only [Option.bind_some, bI_ite]
  unfold bI
  by_cases h1 : M 15 w i 0 = 1 ∨ M 15 w i 0 = 2
  · by_cases h2 : M 15 w i 1 = c
    · simp [h1, h2]
    · simp [h2]
  · simp [h1]
theorem B_has_eq (w i : Nat) (x : Int32) (M : Mem) : mB_has w i x M = some (bI (M 15 w i 2 ≤ x ∧ x ≤ M 15 w i 3), M) := by
  unfold mB_has bI
  by_cases h1 : M 15 w i 2 ≤ x
  · by_cases h2 : x ≤ M 15 w i 3
    · simp [h1, h2]
    · simp [h2]
  · simp [h1]
theorem K_isContract_eq {b : Nat} (hb : b < 24) (N : Mem) : mK_isContract (nI b) N = some (bI (N 41 0 0 (1056 + 14 * b) = 1 ∨ N 41 0 0 (1056 + 14 * b) = 2), N) := by
  unfold mK_isContract
  rw [K_bond_0 hb]
  simp only [Option.bind_some, K_bond_0 hb]
  unfold bI
  by_cases h1 : N 41 0 0 (1056 + 14 * b) = 1
  · simp [h1]
  · by_cases h2 : N 41 0 0 (1056 + 14 * b) = 2
    · simp [h2]
    · simp [h1, h2]
theorem S_missing_eq (i : Nat) (M : Mem) : mS_missing i M = some (bI (M 19 0 i 0 = 0), M) := by
  unfold mS_missing bI
  split <;> rfl
theorem L_present_eq (w i : Nat) (M : Mem) : mL_present w i M = some (bI (M 10 w i 3 = 0 ∨ M 10 w i 3 = 1), M) := by
  unfold mL_present bI
  by_cases h1 : M 10 w i 3 = 0
  · simp [h1]
  · by_cases h2 : M 10 w i 3 = 1
    · simp [h2]
    · simp [h1, h2]
theorem W_bondsFull_eq {M : Mem} {w : Nat} {f : Row} (h : XC M w f) : mW_bondsFull w M = some (bI (f 5 = 24), M) := by
  have b := h.b5
  unfold mW_bondsFull
  rw [h.e5]
  by_cases e : f 5 < 24
  · have : ¬ f 5 = 24 := fun q => by rw [q] at e; exact absurd e (by decide)
    simp [e, bI, this]
  · have : f 5 = 24 := by
      rw [h.n5] at e ⊢
      have : ¬ cn f 5 < 24 := fun q => e (nI_lt q (by decide))
      have : cn f 5 = 24 := by omega
      rw [this]
      rfl
    simp [e, bI, this]
theorem K_isFull_eq (N : Mem) : mK_isFull N = some (bI (N 41 0 0 5 = 24), N) := by
  unfold mK_isFull bI
  split <;> rfl
/-- a count that isn't full -/
theorem cnt_lt {x : Int32} {n b : Nat} (hx : x = nI n) (hn : n ≤ b) (hb : b < 2 ^ 31) : (x < nI b) ↔ ¬ (x = nI b) := by
  subst hx
  rw [nI_ltI (by omega) hb, nI_eq (by omega) hb]
  omega
