/-! ===== the law from its entry ===== -/
abbrev GE (s : State) : Nat → Prop := fun q => s.heap.size ≤ q
theorem va_q5 {D : va_G} {cl : List vw_C} {a n : Nat} {cA : ClassId} {f g : Nat → Option Nat} {H : Heap} (h : va_at D cl (a, .inl (cA, n, .inr (.inr (.inr (.inr f))))) H) (hfg : ∀ i, i < n → f i = g i) : va_at D cl (a, .inl (cA, n, .inr (.inr (.inr (.inr g))))) H := by
  have h1 : H[a]? = some (vp_cell cA (n, .inr (.inr (.inr (.inr f))))) := h
  show H[a]? = some (vp_cell cA (n, .inr (.inr (.inr (.inr g)))))
  rw [h1, vp_cell_q, vp_cell_q]
  congr 1
  unfold arrV
  congr 1
  apply Array.ext
  · simp
  · intro i h2 h3
    simp at h2 ⊢
    rw [hfg i (by simpa using h2)]
