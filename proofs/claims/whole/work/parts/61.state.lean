/-! The class: its state. -/
def upT (τ : Tw) (i : Nat) (k v : Int) : Tw := fun j q => if j = i ∧ q = k then v else τ j q
def upO (f : Int → Int) (k v : Int) : Int → Int := fun j => if j = k then v else f j
theorem upT_e {τ : Tw} {i : Nat} {k v : Int} : upT τ i k v i k = v := by unfold upT; rw [if_pos ⟨rfl, rfl⟩]
theorem upT_i {τ : Tw} {i j : Nat} {k v q : Int} (h : j ≠ i) : upT τ i k v j q = τ j q := by unfold upT; rw [if_neg (fun z => h z.1)]
theorem upT_k {τ : Tw} {i j : Nat} {k v q : Int} (h : q ≠ k) : upT τ i k v j q = τ j q := by unfold upT; rw [if_neg (fun z => h z.2)]
theorem upO_e {f : Int → Int} {k v : Int} : upO f k v k = v := by unfold upO; rw [if_pos rfl]
theorem upO_n {f : Int → Int} {k v j : Int} (h : j ≠ k) : upO f k v j = f j := by unfold upO; rw [if_neg h]
abbrev Lw : Type := Int → List Cls
abbrev Pst : Type := Nat × (Nat → Int × Tw)
abbrev Img : Type := Int → Option (Tw × Lw)
/-- a law's text lies at x -/
def LTx (h : Hp) (b x : Nat) (al : List Cls) : Prop := (∃ nn mm, TxR h x nn mm al) ∧ b + 118 ≤ x ∧ x + 8 < hN h ∧ WL al
/-- the first n laws of the town at t -/
def TL (h : Hp) (b t : Nat) (n : Int) (Λ : Lw) : Prop := (∀ k, 0 ≤ k → k < n → ∃ x, hR h (t + 11) k = some x ∧ LTx h b x (Λ k)) ∧ ∀ k v, 0 ≤ k → k < 6 → hR h (t + 11) k = some v → (hS h v).1 = 9 ∧ v < hN h
def TB (h : Hp) (b t : Nat) (τ : Tw) (Λ : Lw) : Prop := TwR h t τ ∧ TL h b t (τ 0 13) Λ
/-- a ring's debts, added -/
def addR (f : Int → Int) (ring : Int → Int) (len v : Int) : Nat → (Int → Int)
  | 0 => f
  | n + 1 => fun q => addR f ring len v n q + if q = ring n * 8 + ring ((n + 1) % len) then v else 0
/-- a town with a deed's row undone -/
def undoT (row : Int → Int) (τ : Tw) : Tw :=
  if row 0 = 0 then upT τ 2 (row 1) (row 2)
  else if row 0 = 3 then fun i => if i = 7 then addR (τ 7) (fun i => row (3 + i)) (row 1) (row 2) (row 1).toNat else τ i
  else if row 0 = 4 then upT τ 8 0 (τ 8 0 - 1)
  else if 0 ≤ row 1 ∧ row 1 < 64 then upT τ 7 (row 1) (row 2) else τ
def dyI (i : Nat) : Prop := i = 2 ∨ i = 7 ∨ i = 8
/-- a town of which places, debts, terms are those of another one -/
def mix (τ υ : Tw) : Tw := fun i => if i = 2 ∨ i = 7 ∨ i = 8 then υ i else τ i
/-- a row of the past: it was done in υ, which it brings back out of τ -/
def UnC (row : Int → Int) (kd : Int) (υ τ : Tw) (n : Int) : Prop :=
  row 0 = kd ∧ (0 ≤ kd ∧ kd ≤ 4) ∧ (kd = 0 → 0 ≤ row 1 ∧ row 1 < n) ∧ (kd = 3 → 1 ≤ row 1 ∧ row 1 ≤ 8 ∧ (0 ≤ row 2 ∧ row 2 ≤ 99) ∧ ∀ i, 0 ≤ i → i < row 1 → 0 ≤ row (3 + i) ∧ row (3 + i) < 8) ∧ (∀ i k, dyI i → 0 ≤ k → k < twL i → υ i k = undoT row τ i k)
def nxU (U : Pst) (τ : Tw) (k : Nat) : Tw := if k + 1 < U.1 then (U.2 (k + 1)).2 else τ
def PastC (h : Hp) (b : Nat) (τ : Tw) (U : Pst) : Prop :=
  hI h (b + 53) 1 = U.1 ∧ U.1 ≤ 16 ∧ ∀ k : Nat, k < U.1 → UnC (fun j => hI h (b + 54) (11 * k + j)) (U.2 k).1 (U.2 k).2 (nxU U τ k) (τ 0 11) ∧ WT (mix τ (U.2 k).2)
def ImC (h : Hp) (b : Nat) (im : Img) : Prop :=
  (∀ k, k = 0 ∨ k = 1 → (im k = none ∧ hR h (b + 37) k = none) ∨ ∃ υ Λ x, im k = some (υ, Λ) ∧ hR h (b + 37) k = some x ∧ b + 118 ≤ x ∧ x + 11 < hN h ∧ TB h b x υ Λ ∧ WT υ) ∧ ∀ x, hR h (b + 37) 0 = some x → hR h (b + 37) 1 ≠ some x
def DrC (h : Hp) (b : Nat) (dr : Option Tw) : Prop :=
  (dr = none → hI h (b + 25) 11 = 0) ∧ ∀ υ, dr = some υ → TwR h (b + 25) υ ∧ WT υ
def CS (G : Gv) (h : Hp) (b : Nat) (τ : Tw) (Λ : Lw) (tp : Int → Int) (tl : Int) (ob rf : Int → Int) (U : Pst) (im : Img) (dr : Option Tw) : Prop :=
  ((gB G ≤ b ∧ gL G < 100000) ∧ b + 118 ≤ hN h) ∧ ShC h b ∧ (TB h b (b + 1) τ Λ ∧ WT τ) ∧ (hI h (b + 38) 2 = tl ∧ (0 ≤ tl ∧ tl ≤ 400) ∧ ∀ k, 0 ≤ k → k < 400 → hI h (b + 39) k = tp k) ∧
  (hI h b 13 = ob 13 ∧ hI h b 14 = ob 14 ∧ hI h b 15 = ob 15 ∧ hI h b 16 = ob 16) ∧ (∀ k, 0 ≤ k → k < 7 → hI h (b + 87) k = rf k) ∧ PastC h b τ U ∧ ImC h b im ∧ DrC h b dr
/-- what lies outside of the class's cells is the same -/
def Xo (b : Nat) (h h' : Hp) : Prop := hN h ≤ hN h' ∧ Sm (fun a => a < b ∨ (b + 88 ≤ a ∧ a < b + 118)) h h'
/-- only the reference's cells have changed -/
def Xm (m : Nat) (h h' : Hp) : Prop := hN h' = hN h ∧ (∀ a, hS h' a = hS h a) ∧ (∀ a k, hR h' a k = hR h a k) ∧ ∀ a, a < m ∨ m + 30 ≤ a → ∀ k, hI h' a k = hI h a k
theorem Xo.rfl' {b : Nat} {h : Hp} : Xo b h h := ⟨Nat.le_refl _, fun _ _ => ⟨rfl, fun _ => rfl, fun _ => rfl⟩⟩
theorem Xo.trans {b : Nat} {h h1 h2 : Hp} (p : Xo b h h1) (q : Xo b h1 h2) : Xo b h h2 := ⟨Nat.le_trans p.1 q.1, fun a ha => ⟨(q.2 a ha).1.trans (p.2 a ha).1, fun k => ((q.2 a ha).2.1 k).trans ((p.2 a ha).2.1 k), fun k => ((q.2 a ha).2.2 k).trans ((p.2 a ha).2.2 k)⟩⟩
theorem Xo.sI {b a : Nat} {h h1 : Hp} {k x : Int} (p : Xo b h h1) (ha : b ≤ a ∧ a < b + 88 ∨ b + 118 ≤ a) : Xo b h (sI h1 a k x) := ⟨p.1, fun q hq => ⟨(p.2 q hq).1, fun j => by rw [g_In (by omega)]; exact (p.2 q hq).2.1 j, fun j => (p.2 q hq).2.2 j⟩⟩
theorem Xo.sR {b a : Nat} {h h1 : Hp} {k : Int} {x : Option Nat} (p : Xo b h h1) (ha : b ≤ a ∧ a < b + 88 ∨ b + 118 ≤ a) : Xo b h (sR h1 a k x) := ⟨p.1, fun q hq => ⟨(p.2 q hq).1, fun j => (p.2 q hq).2.1 j, fun j => by rw [g_Rn (by omega)]; exact (p.2 q hq).2.2 j⟩⟩
theorem Xo.fr {b : Nat} {h h1 h2 : Hp} {S : Nat → Prop} (p : Xo b h h1) (f : Fr S h1 h2) (hs : ∀ a, S a → b ≤ a ∧ a < b + 88 ∨ b + 118 ≤ a) : Xo b h h2 := p.trans ⟨by rw [f.1]; exact Nat.le_refl _, fun a ha => ⟨f.2.1 a, f.2.2 a (fun z => by have := hs a z; omega)⟩⟩
theorem LTx.sm {h h' : Hp} {b x : Nat} {al : List Cls} (H : LTx h b x al) (hn : hN h ≤ hN h') (f : Sm (fun a => x ≤ a ∧ a ≤ x + 8) h h') : LTx h' b x al := by
  obtain ⟨⟨nn, mm, h1⟩, h2, h3, h4⟩ := H
  exact ⟨⟨nn, mm, h1.sm f⟩, h2, by omega, h4⟩
/-- a town's laws stay, where its row of laws and the texts do -/
theorem TL.sm {h h' : Hp} {b t : Nat} {n : Int} {Λ : Lw} (H : TL h b t n Λ) (hn : hN h ≤ hN h') (hr : ∀ k, hR h' (t + 11) k = hR h (t + 11) k) (hs : ∀ a, a < hN h → hS h' a = hS h a) (f : ∀ x, b + 118 ≤ x → x + 8 < hN h → hS h x = (9, 0) → Sm (fun a => x ≤ a ∧ a ≤ x + 8) h h') : TL h' b t n Λ := by
  refine ⟨fun k k0 k1 => ?_, fun k v k0 k6 hv => ?_⟩
  · obtain ⟨x, e, l⟩ := H.1 k k0 k1
    refine ⟨x, by rw [hr, e], l.sm hn (f x l.2.1 l.2.2.1 ?_)⟩
    obtain ⟨⟨nn, mm, h1⟩, _⟩ := l
    exact h1.1.1
  · rw [hr] at hv
    obtain ⟨q1, q2⟩ := H.2 k v k0 k6 hv
    exact ⟨by rw [hs v q2]; exact q1, by omega⟩
/-- cells that questions may use -/
def Scr (b a : Nat) : Prop := (b + 13 ≤ a ∧ a ≤ b + 24) ∨ (b + 40 ≤ a ∧ a ≤ b + 52) ∨ (b + 55 ≤ a ∧ a ≤ b + 58) ∨ (b + 60 ≤ a ∧ a ≤ b + 86)
/-- a question's frame -/
def Fq (b : Nat) (h h' : Hp) : Prop := FsC b h h' ∧ hN h ≤ hN h' ∧ Sm (fun a => a < hN h ∧ ¬ Scr b a) h h'
theorem Fq.rfl' {b : Nat} {h : Hp} : Fq b h h := ⟨FsC.rfl', Nat.le_refl _, fun _ _ => ⟨rfl, fun _ => rfl, fun _ => rfl⟩⟩
theorem Fq.trans {b : Nat} {h h1 h2 : Hp} (p : Fq b h h1) (q : Fq b h1 h2) : Fq b h h2 := ⟨p.1.trans q.1, Nat.le_trans p.2.1 q.2.1, fun a ha => by
  have hb : a < hN h1 ∧ ¬ Scr b a := ⟨Nat.lt_of_lt_of_le ha.1 p.2.1, ha.2⟩
  exact ⟨(q.2.2 a hb).1.trans (p.2.2 a ha).1, fun k => ((q.2.2 a hb).2.1 k).trans ((p.2.2 a ha).2.1 k), fun k => ((q.2.2 a hb).2.2 k).trans ((p.2.2 a ha).2.2 k)⟩⟩
theorem TB.q {h h' : Hp} {b t : Nat} {τ : Tw} {Λ : Lw} (H : TB h b t τ Λ) (f : Fq b h h') (hb : b + 118 ≤ hN h) (ht : ∀ a, t ≤ a → a ≤ t + 11 → a < hN h ∧ ¬ Scr b a) : TB h' b t τ Λ := by
  have hs : ∀ a, a < hN h → hS h' a = hS h a := by
    intro a ha
    by_cases q : b ≤ a ∧ a < b + 88
    · exact f.1.1 a q.1 q.2
    · exact (f.2.2 a ⟨ha, by unfold Scr; omega⟩).1
  refine ⟨H.1.sm (fun a ha => f.2.2 a (ht a ha.1 ha.2)), H.2.sm f.2.1 (f.2.2 (t + 11) (ht _ (by omega) (by omega))).2.2 hs (fun x x0 x1 _ a ha => f.2.2 a ⟨by omega, by unfold Scr; omega⟩)⟩
theorem CS.q {G : Gv} {h h' : Hp} {b : Nat} {τ : Tw} {Λ : Lw} {tp : Int → Int} {tl : Int} {ob rf : Int → Int} {U : Pst} {im : Img} {dr : Option Tw} (H : CS G h b τ Λ tp tl ob rf U im dr) (f : Fq b h h') : CS G h' b τ Λ tp tl ob rf U im dr := by
  obtain ⟨⟨a1, a2⟩, a3, ⟨a4, a5⟩, ⟨a6, a7, a8⟩, ⟨a9, a10, a11, a12⟩, a13, ⟨a14, a15, a16⟩, ⟨a17, a18⟩, a19, a20⟩ := H
  have z : ∀ i, i < 118 → ¬ Scr b (b + i) → (∀ k, hI h' (b + i) k = hI h (b + i) k) ∧ ∀ k, hR h' (b + i) k = hR h (b + i) k := fun i hi hn => (f.2.2 (b + i) ⟨by omega, hn⟩).2
  have z0 := z 0 (by omega) (by unfold Scr; omega)
  have z38 := z 38 (by omega) (by unfold Scr; omega)
  have z39 := z 39 (by omega) (by unfold Scr; omega)
  have z87 := z 87 (by omega) (by unfold Scr; omega)
  have z53 := z 53 (by omega) (by unfold Scr; omega)
  have z54 := z 54 (by omega) (by unfold Scr; omega)
  have z37 := z 37 (by omega) (by unfold Scr; omega)
  refine ⟨⟨a1, Nat.le_trans a2 f.2.1⟩, a3.fr f.1, ⟨a4.q f a2 (fun a h0 h1 => ⟨by omega, by unfold Scr; omega⟩), a5⟩, ⟨by rw [z38.1]; exact a6, a7, fun k k0 k1 => by rw [z39.1]; exact a8 k k0 k1⟩, ⟨by rw [← a9]; exact z0.1 13, by rw [← a10]; exact z0.1 14, by rw [← a11]; exact z0.1 15, by rw [← a12]; exact z0.1 16⟩, fun k k0 k1 => by rw [z87.1]; exact a13 k k0 k1, ⟨by rw [z53.1]; exact a14, a15, ?_⟩, ⟨fun k hk => ?_, fun x hx => ?_⟩, fun e => ?_, fun υ e => ?_⟩
  · rw [show hI h' (b + 54) = hI h (b + 54) from funext z54.1]; exact a16
  · rcases a17 k hk with ⟨q1, q2⟩ | ⟨υ, Λ', x, q1, q2, q3, q4, q5, q6⟩
    · exact Or.inl ⟨q1, by rw [z37.2]; exact q2⟩
    · exact Or.inr ⟨υ, Λ', x, q1, by rw [z37.2]; exact q2, q3, Nat.lt_of_lt_of_le q4 f.2.1, q5.q f a2 (fun a h0 h1 => ⟨by omega, by unfold Scr; omega⟩), q6⟩
  · rw [z37.2] at hx ⊢; exact a18 x hx
  · rw [← a19 e]; exact (z 25 (by omega) (by unfold Scr; omega)).1 11
  · obtain ⟨q2, q3⟩ := a20 υ e
    exact ⟨q2.sm (fun a ha => f.2.2 a ⟨by omega, by unfold Scr; omega⟩), q3⟩
