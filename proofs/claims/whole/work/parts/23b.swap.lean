theorem am_swapP {D : va_G} {cl : List vw_C} {w1 w2 : va_W} {H : Heap} (h : va_P D cl (w1 ++ w2) H) : va_P D cl (w2 ++ w1) H := by
  intro k q hk
  have hm : q ∈ w1 ++ w2 := by
    rcases List.mem_append.mp (List.mem_of_getElem? hk) with h | h
    · exact List.mem_append_right _ h
    · exact List.mem_append_left _ h
  obtain ⟨i, hi⟩ := List.getElem?_of_mem hm
  exact h i q hi
theorem am_swapD {A : Nat → Prop} {w1 w2 : va_W} (h : va_D A (w1 ++ w2)) : va_D A (w2 ++ w1) := by
  have key : ∀ (k : Nat) (q : Nat × va_E), (w2 ++ w1)[k]? = some q → (k < w2.length ∧ (w1 ++ w2)[w1.length + k]? = some q) ∨ (w2.length ≤ k ∧ k - w2.length < w1.length ∧ (w1 ++ w2)[k - w2.length]? = some q) := by
    intro k q hk
    by_cases hl : k < w2.length
    · rw [List.getElem?_append_left hl] at hk
      exact Or.inl ⟨hl, by rw [List.getElem?_append_right (by omega), Nat.add_sub_cancel_left]; exact hk⟩
    · rw [List.getElem?_append_right (by omega)] at hk
      have h2 : k - w2.length < w1.length := (List.getElem?_eq_some_iff.mp hk).1
      exact Or.inr ⟨by omega, h2, by rw [List.getElem?_append_left h2]; exact hk⟩
  refine ⟨fun i j p q hi hj hpq => ?_, fun k q hk => ?_⟩
  · rcases key i p hi with ⟨a1, a2⟩ | ⟨a1, a2, a3⟩ <;> rcases key j q hj with ⟨b1, b2⟩ | ⟨b1, b2, b3⟩
    · have := h.1 _ _ _ _ a2 b2 hpq; omega
    · have := h.1 _ _ _ _ a2 b3 hpq; omega
    · have := h.1 _ _ _ _ a3 b2 hpq; omega
    · have := h.1 _ _ _ _ a3 b3 hpq; omega
  · rcases key k q hk with ⟨a1, a2⟩ | ⟨a1, a2, a3⟩
    · exact h.2 _ q a2
    · exact h.2 _ q a3
