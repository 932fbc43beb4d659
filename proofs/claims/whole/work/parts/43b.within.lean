/-! ===== is it within ===== -/
theorem wt_in_1 {a b c : Int} {post : Int → Prop} (h : b ≤ a ∧ a ≤ c) (hp : post 1) : wp_T_isWithin a b c post := by
  unfold wp_T_isWithin
  exact ⟨fun q => absurd q (by omega), fun _ => ⟨fun q => absurd q (by omega), fun _ => hp⟩⟩
theorem wt_in_0 {a b c : Int} {post : Int → Prop} (h : ¬ (b ≤ a ∧ a ≤ c)) (hp : post 0) : wp_T_isWithin a b c post := by
  unfold wp_T_isWithin
  exact ⟨fun _ => hp, fun q => ⟨fun _ => hp, fun q2 => absurd ⟨by omega, by omega⟩ h⟩⟩
theorem sp_isRank {r : Nat} {post : Int → Prop} (hr : r < 5040) (h : post 1) : wp_G_isRank (r : Int) post := by
  unfold wp_G_isRank
  exact wt_in_1 ⟨by omega, by omega⟩ ⟨Or.inr rfl, h⟩
theorem sp_readable {u s c : Nat} {M : Mm} {post : Int → Prop} (h1 : 1 ≤ s) (h4 : s ≤ 4) (hs : M u 1 = (s : Int)) (h : post 1) : wp_S_isReadable u (c : Int) M post := by
  unfold wp_S_isReadable
  rw [hs]
  exact ⟨fun q => absurd q (by omega), fun _ => wt_in_1 ⟨by omega, by omega⟩ ⟨fun q => absurd q (by decide), fun _ => h⟩⟩
