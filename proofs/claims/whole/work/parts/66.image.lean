/-! The class: images. -/
theorem tw_tx {h : Hp} {t x nn mm : Nat} (T : TwS h t) (X : TxS h x nn mm) : x + 8 < t ∨ t + 11 < x := by
  by_cases c : t ≤ x ∧ x ≤ t + 11
  · have e := X.1
    rcases (show x = t ∨ x = t + 1 ∨ x = t + 2 ∨ x = t + 3 ∨ x = t + 4 ∨ x = t + 5 ∨ x = t + 6 ∨ x = t + 7 ∨ x = t + 8 ∨ x = t + 9 ∨ x = t + 10 ∨ x = t + 11 by omega) with q | q | q | q | q | q | q | q | q | q | q | q <;> rw [q] at e
    · rw [T.s0] at e; simp at e
    · rw [T.s1] at e; simp at e
    · rw [T.s2] at e; simp at e
    · rw [T.s3] at e; simp at e
    · rw [T.s4] at e; simp at e
    · rw [T.s5] at e; simp at e
    · rw [T.s6] at e; simp at e
    · rw [T.s7] at e; simp at e
    · rw [T.s8] at e; simp at e
    · rw [T.s9] at e; simp at e
    · rw [T.s10] at e; simp at e
    · rw [T.s11] at e; simp at e
  by_cases c2 : x + 1 ≤ t ∧ t ≤ x + 8
  · have e := T.s0
    obtain ⟨t0, t1, t2, t3, t4, t5, t6, t7, t8, _⟩ := X
    rcases (show t = x + 1 ∨ t = x + 2 ∨ t = x + 3 ∨ t = x + 4 ∨ t = x + 5 ∨ t = x + 6 ∨ t = x + 7 ∨ t = x + 8 by omega) with q | q | q | q | q | q | q | q <;> rw [q] at e
    · rw [t1] at e; simp at e
    · rw [t2] at e; simp at e
    · rw [t3] at e; simp at e
    · rw [t4] at e; simp at e
    · rw [t5] at e; simp at e
    · rw [t6] at e; simp at e
    · rw [t7] at e; simp at e
    · rw [t8] at e; simp at e
  omega
theorem tw_tw {h : Hp} {t s : Nat} (T : TwS h t) (S : TwS h s) (hn : t ≠ s) : t + 11 < s ∨ s + 11 < t := by
  have key : ∀ {t s : Nat}, TwS h t → TwS h s → ¬ (t + 1 ≤ s ∧ s ≤ t + 11) := by
    intro t s T S c
    have e := S.s0
    rcases (show s = t + 1 ∨ s = t + 2 ∨ s = t + 3 ∨ s = t + 4 ∨ s = t + 5 ∨ s = t + 6 ∨ s = t + 7 ∨ s = t + 8 ∨ s = t + 9 ∨ s = t + 10 ∨ s = t + 11 by omega) with q | q | q | q | q | q | q | q | q | q | q <;> rw [q] at e
    · rw [T.s1] at e; simp at e
    · rw [T.s2] at e; simp at e
    · rw [T.s3] at e; simp at e
    · rw [T.s4] at e; simp at e
    · rw [T.s5] at e; simp at e
    · rw [T.s6] at e; simp at e
    · rw [T.s7] at e; simp at e
    · rw [T.s8] at e; simp at e
    · rw [T.s9] at e; simp at e
    · rw [T.s10] at e; simp at e
    · rw [T.s11] at e; simp at e
  have k1 := key T S
  have k2 := key S T
  omega
theorem TL.sm2 {h h' : Hp} {b t : Nat} {n : Int} {Λ : Lw} (H : TL h b t n Λ) (hn : hN h ≤ hN h') (hr : ∀ k, hR h' (t + 11) k = hR h (t + 11) k) (hs : ∀ a, a < hN h → hS h' a = hS h a) (f : ∀ x nn mm, b + 118 ≤ x → x + 8 < hN h → TxS h x nn mm → Sm (fun a => x ≤ a ∧ a ≤ x + 8) h h') : TL h' b t n Λ := by
  refine ⟨fun k k0 k1 => ?_, fun k v k0 k6 hv => ?_⟩
  · obtain ⟨x, e, l⟩ := H.1 k k0 k1
    obtain ⟨⟨nn, mm, h1⟩, l2, l3, l4⟩ := id l
    exact ⟨x, by rw [hr, e], l.sm hn (f x nn mm l2 l3 h1.1)⟩
  · rw [hr] at hv
    obtain ⟨q1, q2⟩ := H.2 k v k0 k6 hv
    exact ⟨by rw [hs v q2]; exact q1, by omega⟩
/-- a town that has become another one -/
theorem Bc.tb {h h' : Hp} {b t o : Nat} {τ : Tw} {Λ : Lw} (B : Bc t o h h') (Tt : TwS h t) (O : TB h b o τ Λ) (hl : τ 0 13 ≤ 6) (hto : t + 12 ≤ o ∨ o + 12 ≤ t) : TB h' b t τ Λ := by
  obtain ⟨f, b1, b2, b3, b4⟩ := B
  have sd : ∀ x nn mm, TxS h x nn mm → Sm (fun a => x ≤ a ∧ a ≤ x + 8) h h' := fun x nn mm X a ha => by
    have := tw_tx Tt X
    exact ⟨f.2.1 a, f.2.2 a (by omega)⟩
  refine ⟨⟨?_, fun i i1 i2 k k0 k1 => by rw [b1 i i1 i2 k k0 k1]; exact O.1.2.1 i i1 i2 k k0 k1, fun k k0 k1 => by rw [b3 k k0 k1]; exact O.1.2.2 k k0 k1⟩, fun k k0 k1 => ?_, fun k v k0 k6 hv => ?_⟩
  · obtain ⟨s0, s1, s2, s3, s4, s5, s6, s7, s8, s9, s10, s11, r0, r1, r2, r3, r4, r5, r6, r7, r8, r9, r10⟩ := Tt
    exact ⟨by rw [f.2.1]; exact s0, by rw [f.2.1]; exact s1, by rw [f.2.1]; exact s2, by rw [f.2.1]; exact s3, by rw [f.2.1]; exact s4, by rw [f.2.1]; exact s5, by rw [f.2.1]; exact s6, by rw [f.2.1]; exact s7, by rw [f.2.1]; exact s8, by rw [f.2.1]; exact s9, by rw [f.2.1]; exact s10, by rw [f.2.1]; exact s11, by rw [b4]; exact r0, by rw [b4]; exact r1, by rw [b4]; exact r2, by rw [b4]; exact r3, by rw [b4]; exact r4, by rw [b4]; exact r5, by rw [b4]; exact r6, by rw [b4]; exact r7, by rw [b4]; exact r8, by rw [b4]; exact r9, by rw [b4]; exact r10⟩
  · obtain ⟨x, e, l⟩ := O.2.1 k k0 k1
    obtain ⟨⟨nn, mm, h1⟩, _⟩ := id l
    exact ⟨x, by rw [b2 k k0 (by omega), e], l.sm (by rw [f.1]; exact Nat.le_refl _) (sd x nn mm h1.1)⟩
  · rw [b2 k k0 k6] at hv
    obtain ⟨q1, q2⟩ := O.2.2 k v k0 k6 hv
    exact ⟨by rw [f.2.1]; exact q1, by rw [f.1]; exact q2⟩
