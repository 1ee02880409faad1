/-! L3: the relation at the start -/
theorem z0_C (a : Nat) (h : sC0l.getD a [] = []) (k : Nat) : sC0 a k = 0 := by
  unfold sC0; rw [h]; rfl
theorem z0_M (a : Nat) (h : sM0l.getD a [] = []) (k : Nat) : sM0 a k = 0 := by
  unfold sM0; rw [h]; rfl
theorem z0_R : rl_R sC0 sM0 := by
  have c : ∀ a, a ∈ [3, 4, 5, 6, 7, 8, 9, 10, 11, 12, 14, 17, 19, 22, 24, 26, 28, 30, 32, 34, 36, 38, 158] → sC0l.getD a [] = [] := by decide +kernel
  have m : ∀ a, a ∈ [1, 2, 4, 5, 6, 7, 8, 9, 11, 12, 13, 14, 15, 16, 17, 19, 20, 21, 24, 25, 26, 30, 31, 32, 34, 36, 37, 39] → sM0l.getD a [] = [] := by decide +kernel
  have C := fun a ha => z0_C a (c a ha)
  have M := fun a ha => z0_M a (m a ha)
  have rg : ∀ x hi : Int32, x = 0 → 0 ≤ hi → rl_rg x 0 hi := fun x hi e h => by rw [e]; exact ⟨by decide, h⟩
  refine ⟨?_, ⟨0, 0, ?_, ?_, ?_, ?_, ?_, ?_, ?_, ?_, ?_, ?_, ?_, ?_, ?_, ?_, ?_⟩, ?_, ?_, ?_, ?_⟩
  · refine ⟨rfl, rfl, rfl, rfl, rfl, rfl, rfl, rfl, rfl, rfl, rfl, rfl, rfl, rfl, rfl, rfl, ?_⟩
    decide +kernel
  · refine ⟨rfl, ?_, rfl, rfl, fun j hj => ?_⟩
    · rw [M 1 (by simp)]; decide +kernel
    · rw [M 1 (by simp), M 1 (by simp), M 1 (by simp), M 1 (by simp), M 1 (by simp), M 1 (by simp), C 5 (by simp), C 6 (by simp), C 7 (by simp), C 8 (by simp), C 9 (by simp), C 12 (by simp)]
      exact ⟨rfl, rfl, rfl, rfl, rfl, rfl⟩
  · refine ⟨rfl, rfl, fun j hj => ?_⟩
    rw [M 4 (by simp), M 5 (by simp), M 6 (by simp), M 7 (by simp), C 3 (by simp), C 4 (by simp), C 10 (by simp), C 11 (by simp)]
    exact ⟨rfl, rfl, rfl, rfl⟩
  · refine ⟨?_, ?_, fun j hj => ?_⟩
    · rw [M 1 (by simp)]; exact ⟨by decide, by decide⟩
    · exact rg _ _ (M 1 (by simp) 4) (by decide)
    · exact ⟨rg _ _ (M 1 (by simp) _) (by decide), rg _ _ (M 1 (by simp) _) (by decide), rg _ _ (M 1 (by simp) _) (by decide), rg _ _ (M 1 (by simp) _) (by decide), rg _ _ (M 1 (by simp) _) (by decide), fun _ => ⟨M 1 (by simp) _, M 1 (by simp) _, M 1 (by simp) _, M 1 (by simp) _⟩, fun _ => M 1 (by simp) _⟩
  · exact ⟨by omega, by omega, rfl, rfl, fun j hj => ⟨rg _ _ (M 4 (by simp) _) (by decide), rg _ _ (M 5 (by simp) _) (by decide), rg _ _ (M 6 (by simp) _) (by decide), rg _ _ (M 7 (by simp) _) (by decide)⟩⟩
  · exact ⟨0, by omega, rfl, M 1 (by simp) 2, fun k hk => by rw [C 14 (by simp), M 8 (by simp)]⟩
  · exact ⟨0, by omega, rfl, rfl, fun k hk => ⟨by rw [C 28 (by simp), M 24 (by simp)], by rw [C 28 (by simp), M 25 (by simp)], by rw [C 28 (by simp), M 26 (by simp)], rg _ _ (M 24 (by simp) _) (by decide), rg _ _ (M 25 (by simp) _) (by decide), rg _ _ (M 26 (by simp) _) (by decide)⟩⟩
  · exact ⟨0, by omega, rfl, M 30 (by simp) 0, fun k hk => ⟨by rw [C 30 (by simp), M 31 (by simp)], rg _ _ (M 31 (by simp) _) (by decide)⟩⟩
  · exact ⟨0, by omega, rfl, M 30 (by simp) 1, fun k hk => ⟨by rw [C 32 (by simp), M 31 (by simp)], rg _ _ (M 31 (by simp) _) (by decide)⟩⟩
  · exact ⟨0, by omega, rfl, rfl, fun k hk => ⟨by rw [C 34 (by simp), M 32 (by simp)], rg _ _ (M 32 (by simp) _) (by decide)⟩⟩
  · exact ⟨0, by omega, rfl, rfl, fun k hk => ⟨by rw [M 34 (by simp), C 36 (by simp), C 36 (by simp)]; rfl, rg _ _ (C 36 (by simp) _) (by decide), rg _ _ (C 36 (by simp) _) (by decide)⟩⟩
  · exact ⟨0, by omega, rfl, rfl, fun k hk => ⟨by rw [C 38 (by simp), M 36 (by simp)], by rw [C 38 (by simp), M 37 (by simp)], by rw [M 36 (by simp)]; exact ⟨by decide, by decide⟩, by rw [M 37 (by simp)]; exact ⟨by decide, by decide⟩⟩⟩
  · exact ⟨0, by omega, rfl, rfl, fun i hi => by omega⟩
  · exact ⟨0, by omega, rfl, rfl, fun o ho => ⟨by rw [M 20 (by simp)]; rfl, .inl (M 20 (by simp) _)⟩⟩
  · exact ⟨0, by omega, rfl, rfl, fun o ho => by rw [M 21 (by simp)]; rfl, fun i hi => by omega⟩
  · exact ⟨0, 0, by omega, by omega, rfl, M 11 (by simp) 0, rfl, fun i hi => by omega⟩
  · exact ⟨0, 0, 0, by omega, by omega, by omega, rfl, rfl, rfl, M 1 (by simp) 2, ⟨fun _ => 0, fun j hj => by omega⟩, fun j hj => by omega⟩
  · exact ⟨0, by omega, rfl, rfl, fun k hk => ⟨by rw [C 158 (by simp), M 9 (by simp)], rg _ _ (M 9 (by simp) _) (by decide)⟩⟩
  · exact ⟨rfl, rfl⟩
  · exact ⟨rfl, .inl rfl⟩
