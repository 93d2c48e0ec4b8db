/-! The class: general changes. The reference: its state. -/
theorem CS.gen {G : Gv} {h h' : Hp} {b : Nat} {τ τ' : Tw} {Λ : Lw} {tp : Int → Int} {tl : Int} {ob rf : Int → Int} {U U' : Pst} {im : Img} {dr : Option Tw} (H : CS G h b τ Λ tp tl ob rf U im dr) (f : Fr (fun a => (b + 1 ≤ a ∧ a ≤ b + 11) ∨ a = b + 53 ∨ a = b + 54) h h') (hr : ∀ a k, hR h' a k = hR h a k) (T : TwR h' (b + 1) τ') (e13 : τ' 0 13 = τ 0 13) (W : WT τ') (P : PastC h' b τ' U') : CS G h' b τ' Λ tp tl ob rf U' im dr := by
  obtain ⟨⟨a1, a2⟩, a3, ⟨a4, a5⟩, ⟨a6, a7, a8⟩, ⟨a9, a10, a11, a12⟩, a13, _, ⟨a17, a18⟩, a19, a20⟩ := H
  have z : ∀ a, ¬ ((b + 1 ≤ a ∧ a ≤ b + 11) ∨ a = b + 53 ∨ a = b + 54) → ∀ k, hI h' a k = hI h a k := fun a ha => (f.2.2 a ha).1
  have tl1 : ∀ {t : Nat} {n : Int} {Λ' : Lw}, TL h b t n Λ' → TL h' b t n Λ' := fun hh => hh.sm (by rw [f.1]; exact Nat.le_refl _) (fun k => hr _ k) (fun a _ => f.2.1 a) (fun x x0 x1 _ a ha => ⟨f.2.1 a, z a (by omega), fun k => hr a k⟩)
  refine ⟨⟨a1, by rw [f.1]; exact a2⟩, a3.fr ⟨fun a _ _ => f.2.1 a, fun a k _ _ _ => hr a k⟩, ⟨⟨T, by rw [e13]; exact tl1 a4.2⟩, W⟩, ⟨by rw [z _ (by omega)]; exact a6, a7, fun k k0 k1 => by rw [z _ (by omega)]; exact a8 k k0 k1⟩, ⟨by rw [z _ (by omega)]; exact a9, by rw [z _ (by omega)]; exact a10, by rw [z _ (by omega)]; exact a11, by rw [z _ (by omega)]; exact a12⟩, fun k k0 k1 => by rw [z _ (by omega)]; exact a13 k k0 k1, P, ⟨fun k hk => ?_, fun x hx => ?_⟩, fun e => ?_, fun υ e => ?_⟩
  · rcases a17 k hk with ⟨q1, q2⟩ | ⟨υ, Λ', x, q1, q2, q3, q4, q5, q6⟩
    · exact Or.inl ⟨q1, by rw [hr]; exact q2⟩
    · exact Or.inr ⟨υ, Λ', x, q1, by rw [hr]; exact q2, q3, by rw [f.1]; exact q4, ⟨q5.1.sm (fun a ha => ⟨f.2.1 a, z a (by omega), fun k => hr a k⟩), tl1 q5.2⟩, q6⟩
  · rw [hr] at hx ⊢; exact a18 x hx
  · rw [z _ (by omega)]; exact a19 e
  · obtain ⟨q2, q3⟩ := a20 υ e
    exact ⟨q2.sm (fun a ha => ⟨f.2.1 a, z a (by omega), fun k => hr a k⟩), q3⟩
theorem CS.ob {G : Gv} {h : Hp} {b : Nat} {τ : Tw} {Λ : Lw} {tp : Int → Int} {tl : Int} {ob rf : Int → Int} {U : Pst} {im : Img} {dr : Option Tw} {k v : Int} (H : CS G h b τ Λ tp tl ob rf U im dr) (hk : k = 13 ∨ k = 14 ∨ k = 15 ∨ k = 16) : CS G (sI h b k v) b τ Λ tp tl (upO ob k v) rf U im dr := by
  obtain ⟨⟨a1, a2⟩, a3, ⟨a4, a5⟩, ⟨a6, a7, a8⟩, ⟨a9, a10, a11, a12⟩, a13, ⟨a14, a15, a16⟩, ⟨a17, a18⟩, a19, a20⟩ := H
  have f : Fr (fun a => a = b) h (sI h b k v) := Fr.rfl'.sI rfl
  have z : ∀ a, a ≠ b → ∀ j, hI (sI h b k v) a j = hI h a j := fun a ha => (f.2.2 a ha).1
  have tl1 : ∀ {t : Nat} {n : Int} {Λ' : Lw}, TL h b t n Λ' → TL (sI h b k v) b t n Λ' := fun hh => hh.sm (Nat.le_refl _) (fun k => rfl) (fun a _ => f.2.1 a) (fun x x0 x1 _ a ha => ⟨f.2.1 a, z a (by omega), fun k => rfl⟩)
  have o : ∀ j : Int, hI h b j = ob j → hI (sI h b k v) b j = upO ob k v j := by
    intro j hj
    by_cases e : j = k
    · subst e; rw [g_Ie, upO_e]
    · rw [g_Ij e, upO_n e]; exact hj
  refine ⟨⟨a1, a2⟩, a3.fr ⟨fun a _ _ => f.2.1 a, fun a k _ _ _ => rfl⟩, ⟨⟨a4.1.sm (fun a ha => ⟨rfl, z a (by omega), fun k => rfl⟩), tl1 a4.2⟩, a5⟩, ⟨by rw [z _ (by omega)]; exact a6, a7, fun k k0 k1 => by rw [z _ (by omega)]; exact a8 k k0 k1⟩, ⟨o _ a9, o _ a10, o _ a11, o _ a12⟩, fun k k0 k1 => by rw [z _ (by omega)]; exact a13 k k0 k1, ⟨by rw [z _ (by omega)]; exact a14, a15, ?_⟩, ⟨fun k hk => ?_, a18⟩, fun e => ?_, fun υ e => ?_⟩
  · rw [show hI (sI h b k v) (b + 54) = hI h (b + 54) from funext (z _ (by omega))]; exact a16
  · rcases a17 k hk with ⟨q1, q2⟩ | ⟨υ, Λ', x, q1, q2, q3, q4, q5, q6⟩
    · exact Or.inl ⟨q1, q2⟩
    · exact Or.inr ⟨υ, Λ', x, q1, q2, q3, q4, ⟨q5.1.sm (fun a ha => ⟨f.2.1 a, z a (by omega), fun k => rfl⟩), tl1 q5.2⟩, q6⟩
  · rw [z _ (by omega)]; exact a19 e
  · obtain ⟨q2, q3⟩ := a20 υ e
    exact ⟨q2.sm (fun a ha => ⟨f.2.1 a, z a (by omega), fun k => rfl⟩), q3⟩
theorem CS.rf {G : Gv} {h : Hp} {b : Nat} {τ : Tw} {Λ : Lw} {tp : Int → Int} {tl : Int} {ob rf : Int → Int} {U : Pst} {im : Img} {dr : Option Tw} {k v : Int} (H : CS G h b τ Λ tp tl ob rf U im dr) : CS G (sI h (b + 87) k v) b τ Λ tp tl ob (upO rf k v) U im dr := by
  obtain ⟨⟨a1, a2⟩, a3, ⟨a4, a5⟩, ⟨a6, a7, a8⟩, ⟨a9, a10, a11, a12⟩, a13, ⟨a14, a15, a16⟩, ⟨a17, a18⟩, a19, a20⟩ := H
  have f : Fr (fun a => a = b + 87) h (sI h (b + 87) k v) := Fr.rfl'.sI rfl
  have z : ∀ a, a ≠ b + 87 → ∀ j, hI (sI h (b + 87) k v) a j = hI h a j := fun a ha => (f.2.2 a ha).1
  have tl1 : ∀ {t : Nat} {n : Int} {Λ' : Lw}, TL h b t n Λ' → TL (sI h (b + 87) k v) b t n Λ' := fun hh => hh.sm (Nat.le_refl _) (fun k => rfl) (fun a _ => f.2.1 a) (fun x x0 x1 _ a ha => ⟨f.2.1 a, z a (by omega), fun k => rfl⟩)
  refine ⟨⟨a1, a2⟩, a3.fr ⟨fun a _ _ => f.2.1 a, fun a k _ _ _ => rfl⟩, ⟨⟨a4.1.sm (fun a ha => ⟨rfl, z a (by omega), fun k => rfl⟩), tl1 a4.2⟩, a5⟩, ⟨by rw [z _ (by omega)]; exact a6, a7, fun k k0 k1 => by rw [z _ (by omega)]; exact a8 k k0 k1⟩, ⟨by rw [z _ (by omega)]; exact a9, by rw [z _ (by omega)]; exact a10, by rw [z _ (by omega)]; exact a11, by rw [z _ (by omega)]; exact a12⟩, fun j k0 k1 => ?_, ⟨by rw [z _ (by omega)]; exact a14, a15, ?_⟩, ⟨fun k hk => ?_, a18⟩, fun e => ?_, fun υ e => ?_⟩
  · by_cases e : j = k
    · subst e; rw [g_Ie, upO_e]
    · rw [g_Ij e, upO_n e]; exact a13 j k0 k1
  · rw [show hI (sI h (b + 87) k v) (b + 54) = hI h (b + 54) from funext (z _ (by omega))]; exact a16
  · rcases a17 k hk with ⟨q1, q2⟩ | ⟨υ, Λ', x, q1, q2, q3, q4, q5, q6⟩
    · exact Or.inl ⟨q1, q2⟩
    · exact Or.inr ⟨υ, Λ', x, q1, q2, q3, q4, ⟨q5.1.sm (fun a ha => ⟨f.2.1 a, z a (by omega), fun k => rfl⟩), tl1 q5.2⟩, q6⟩
  · rw [z _ (by omega)]; exact a19 e
  · obtain ⟨q2, q3⟩ := a20 υ e
    exact ⟨q2.sm (fun a ha => ⟨f.2.1 a, z a (by omega), fun k => rfl⟩), q3⟩
theorem CS.tape {G : Gv} {h h' : Hp} {b : Nat} {τ : Tw} {Λ : Lw} {tp tp' : Int → Int} {tl tl' : Int} {ob rf : Int → Int} {U : Pst} {im : Img} {dr : Option Tw} (H : CS G h b τ Λ tp tl ob rf U im dr) (f : Fr (fun a => a = b + 38 ∨ a = b + 39) h h') (hr : ∀ a k, hR h' a k = hR h a k) (h1 : hI h' (b + 38) 2 = tl') (h2 : 0 ≤ tl' ∧ tl' ≤ 400) (h3 : ∀ k, 0 ≤ k → k < 400 → hI h' (b + 39) k = tp' k) : CS G h' b τ Λ tp' tl' ob rf U im dr := by
  obtain ⟨⟨a1, a2⟩, a3, ⟨a4, a5⟩, _, ⟨a9, a10, a11, a12⟩, a13, ⟨a14, a15, a16⟩, ⟨a17, a18⟩, a19, a20⟩ := H
  have z : ∀ a, ¬ (a = b + 38 ∨ a = b + 39) → ∀ k, hI h' a k = hI h a k := fun a ha => (f.2.2 a ha).1
  have tl1 : ∀ {t : Nat} {n : Int} {Λ' : Lw}, TL h b t n Λ' → TL h' b t n Λ' := fun hh => hh.sm (by rw [f.1]; exact Nat.le_refl _) (fun k => hr _ k) (fun a _ => f.2.1 a) (fun x x0 x1 _ a ha => ⟨f.2.1 a, z a (by omega), fun k => hr a k⟩)
  refine ⟨⟨a1, by rw [f.1]; exact a2⟩, a3.fr ⟨fun a _ _ => f.2.1 a, fun a k _ _ _ => hr a k⟩, ⟨⟨a4.1.sm (fun a ha => ⟨f.2.1 a, z a (by omega), fun k => hr a k⟩), tl1 a4.2⟩, a5⟩, ⟨h1, h2, h3⟩, ⟨by rw [z _ (by omega)]; exact a9, by rw [z _ (by omega)]; exact a10, by rw [z _ (by omega)]; exact a11, by rw [z _ (by omega)]; exact a12⟩, fun k k0 k1 => by rw [z _ (by omega)]; exact a13 k k0 k1, ⟨by rw [z _ (by omega)]; exact a14, a15, ?_⟩, ⟨fun k hk => ?_, fun x hx => ?_⟩, fun e => ?_, fun υ e => ?_⟩
  · rw [show hI h' (b + 54) = hI h (b + 54) from funext (z _ (by omega))]; exact a16
  · rcases a17 k hk with ⟨q1, q2⟩ | ⟨υ, Λ', x, q1, q2, q3, q4, q5, q6⟩
    · exact Or.inl ⟨q1, by rw [hr]; exact q2⟩
    · exact Or.inr ⟨υ, Λ', x, q1, by rw [hr]; exact q2, q3, by rw [f.1]; exact q4, ⟨q5.1.sm (fun a ha => ⟨f.2.1 a, z a (by omega), fun k => hr a k⟩), tl1 q5.2⟩, q6⟩
  · rw [hr] at hx ⊢; exact a18 x hx
  · rw [z _ (by omega)]; exact a19 e
  · obtain ⟨q2, q3⟩ := a20 υ e
    exact ⟨q2.sm (fun a ha => ⟨f.2.1 a, z a (by omega), fun k => hr a k⟩), q3⟩
/-- the class stays while the reference works -/
theorem CS.xm {G : Gv} {h h' : Hp} {b : Nat} {τ : Tw} {Λ : Lw} {tp : Int → Int} {tl : Int} {ob rf : Int → Int} {U : Pst} {im : Img} {dr : Option Tw} (H : CS G h b τ Λ tp tl ob rf U im dr) (f : Xm (b + 88) h h') : CS G h' b τ Λ tp tl ob rf U im dr := by
  obtain ⟨⟨a1, a2⟩, a3, ⟨a4, a5⟩, ⟨a6, a7, a8⟩, ⟨a9, a10, a11, a12⟩, a13, ⟨a14, a15, a16⟩, ⟨a17, a18⟩, a19, a20⟩ := H
  obtain ⟨f1, f2, hr, z⟩ := f
  have tl1 : ∀ {t : Nat} {n : Int} {Λ' : Lw}, TL h b t n Λ' → TL h' b t n Λ' := fun hh => hh.sm (by rw [f1]; exact Nat.le_refl _) (fun k => hr _ k) (fun a _ => f2 a) (fun x x0 x1 _ a ha => ⟨f2 a, z a (by omega), fun k => hr a k⟩)
  refine ⟨⟨a1, by rw [f1]; exact a2⟩, a3.fr ⟨fun a _ _ => f2 a, fun a k _ _ _ => hr a k⟩, ⟨⟨a4.1.sm (fun a ha => ⟨f2 a, z a (by omega), fun k => hr a k⟩), tl1 a4.2⟩, a5⟩, ⟨by rw [z _ (by omega)]; exact a6, a7, fun k k0 k1 => by rw [z _ (by omega)]; exact a8 k k0 k1⟩, ⟨by rw [z _ (by omega)]; exact a9, by rw [z _ (by omega)]; exact a10, by rw [z _ (by omega)]; exact a11, by rw [z _ (by omega)]; exact a12⟩, fun k k0 k1 => by rw [z _ (by omega)]; exact a13 k k0 k1, ⟨by rw [z _ (by omega)]; exact a14, a15, ?_⟩, ⟨fun k hk => ?_, fun x hx => ?_⟩, fun e => ?_, fun υ e => ?_⟩
  · rw [show hI h' (b + 54) = hI h (b + 54) from funext (z _ (by omega))]; exact a16
  · rcases a17 k hk with ⟨q1, q2⟩ | ⟨υ, Λ', x, q1, q2, q3, q4, q5, q6⟩
    · exact Or.inl ⟨q1, by rw [hr]; exact q2⟩
    · exact Or.inr ⟨υ, Λ', x, q1, by rw [hr]; exact q2, q3, by rw [f1]; exact q4, ⟨q5.1.sm (fun a ha => ⟨f2 a, z a (by omega), fun k => hr a k⟩), tl1 q5.2⟩, q6⟩
  · rw [hr] at hx ⊢; exact a18 x hx
  · rw [z _ (by omega)]; exact a19 e
  · obtain ⟨q2, q3⟩ := a20 υ e
    exact ⟨q2.sm (fun a ha => ⟨f2 a, z a (by omega), fun k => hr a k⟩), q3⟩
/-! The reference's state. -/
def PastM (h : Hp) (m : Nat) (U : Pst) : Prop :=
  hI h m 8 = U.1 ∧ U.1 ≤ 16 ∧ ∀ k : Nat, k < U.1 → hI h (m + 6) k = (U.2 k).1 ∧ (∀ j, 0 ≤ j → j < 2 → hI h (m + 5) (74 * k + j) = (U.2 k).2 8 j) ∧ (∀ j, 0 ≤ j → j < 8 → hI h (m + 5) (74 * k + (2 + j)) = (U.2 k).2 2 j) ∧ ∀ j, 0 ≤ j → j < 64 → hI h (m + 5) (74 * k + (10 + j)) = (U.2 k).2 7 j
/-- a row's numbers are a town and its laws -/
def RwR (m : Nat) (f : Int → Int) (τ : Tw) (Λ : Lw) : Prop := ∀ h' : Hp, (∀ i, 0 ≤ i → i < 5555 → hI h' (m + 2) i = f i) → MRw h' m τ ∧ ∀ l, 0 ≤ l → l < τ 0 13 → MLaw h' m (155 + 900 * l) (Λ l) ∧ WL (Λ l)
def ImM (h : Hp) (m : Nat) (im : Img) : Prop := ∀ k, k = 0 ∨ k = 1 → (im k = none ∧ hI h (m + 4) k = 0) ∨ ∃ υ Λ, im k = some (υ, Λ) ∧ hI h (m + 4) k = 1 ∧ RwR m (fun i => hI h (m + 3) (5555 * k + i)) υ Λ
def DrM (h : Hp) (m : Nat) (dr : Option Tw) : Prop :=
  (dr = none → hI h m 57 = -1) ∧ ∀ υ, dr = some υ → hI h m 57 = υ 0 11 ∧ ∀ p, 0 ≤ p → p < υ 0 11 → hI h (m + 29) (3 * p) = υ 2 p ∧ hI h (m + 29) (3 * p + 1) = owT υ p ∧ hI h (m + 29) (3 * p + 2) = owB υ p
def mW : List Int := [542723566, 17171557, 153204, 1253, 165459, 114052, 6194, 16392370, 446125701, 441828]
def mO : List Int := [446125701, 146885, 404362868, 52, 515236, 515251]
def mH : List Int := [20876290227, 8554067, 515251, 67155]
def mA : List Int := [643248, 652384069, 6964881093, 525939]
/-- the reference's rows of words -/
def MCn (h : Hp) (m : Nat) : Prop := (∀ k : Nat, k < 10 → hI h (m + 15) k = mW.getD k 0) ∧ (∀ k : Nat, k < 6 → hI h (m + 16) k = mO.getD k 0) ∧ (∀ k : Nat, k < 4 → hI h (m + 17) k = mH.getD k 0) ∧ ∀ k : Nat, k < 4 → hI h (m + 27) k = mA.getD k 0
def MS (h : Hp) (m : Nat) (τ : Tw) (Λ : Lw) (tp : Int → Int) (tl : Int) (ob rf : Int → Int) (U : Pst) (im : Img) (dr : Option Tw) : Prop :=
  MdS h m ∧ MRw h m τ ∧ (∀ l, 0 ≤ l → l < τ 0 13 → MLaw h m (155 + 900 * l) (Λ l) ∧ WL (Λ l)) ∧ hI h m 20 = 0 ∧ (hI h m 13 = tl ∧ ∀ k, 0 ≤ k → k < 400 → hI h (m + 9) k = tp k) ∧
  (hI h m 1 = ob 13 ∧ hI h m 18 = ob 14 ∧ hI h m 53 = ob 15 ∧ hI h m 11 = ob 16) ∧ (∀ k, 0 ≤ k → k < 7 → hI h (m + 1) k = rf k) ∧ PastM h m U ∧ ImM h m im ∧ DrM h m dr ∧ MCn h m
/-- the reference stays while the class works -/
theorem MS.xo {h h' : Hp} {b : Nat} {τ : Tw} {Λ : Lw} {tp : Int → Int} {tl : Int} {ob rf : Int → Int} {U : Pst} {im : Img} {dr : Option Tw} (H : MS h (b + 88) τ Λ tp tl ob rf U im dr) (f : Xo b h h') : MS h' (b + 88) τ Λ tp tl ob rf U im dr := by
  have z : ∀ i, i ≤ 29 → hI h' (b + 88 + i) = hI h (b + 88 + i) := fun i hi => funext (f.2 (b + 88 + i) (by omega)).2.1
  have z0 : hI h' (b + 88) = hI h (b + 88) := z 0 (by omega)
  obtain ⟨a1, a2, a3, a4, a5, a6, a7, a8, a9, a10, a11⟩ := H
  have z2 := fun k => congrFun (z 2 (by omega)) k
  refine ⟨a1.sm (fun a h0 h1 => (f.2 a (by omega)).1) (f.2 (b + 88) (by omega)).2.2, a2.sm z2, fun l l0 l1 => ⟨(a3 l l0 l1).1.sm z2, (a3 l l0 l1).2⟩, by rw [z0]; exact a4, ?_, ?_, ?_, ?_, ?_, ?_, ?_⟩
  · rw [z0, z 9 (by omega)]; exact a5
  · rw [z0]; exact a6
  · rw [z 1 (by omega)]; exact a7
  · unfold PastM; rw [z0, z 5 (by omega), z 6 (by omega)]; exact a8
  · unfold ImM; rw [z 4 (by omega), z 3 (by omega)]; exact a9
  · unfold DrM; rw [z0, z 29 (by omega)]; exact a10
  · unfold MCn; rw [z 15 (by omega), z 16 (by omega), z 17 (by omega), z 27 (by omega)]; exact a11
/-- a question's frame in the reference -/
def Gq (m : Nat) (h h' : Hp) : Prop := hN h' = hN h ∧ (∀ a, hS h' a = hS h a) ∧ (∀ a k, hR h' a k = hR h a k) ∧ (∀ a, a ≠ m → ¬ (m + 10 ≤ a ∧ a ≤ m + 14) → ¬ (m + 18 ≤ a ∧ a ≤ m + 26) → a ≠ m + 28 → a ≠ m + 5 → ∀ k, hI h' a k = hI h a k) ∧ (∀ k, k < 1184 → hI h' (m + 5) k = hI h (m + 5) k) ∧ ∀ k, k = 1 ∨ k = 8 ∨ k = 11 ∨ k = 13 ∨ k = 18 ∨ k = 20 ∨ k = 53 ∨ k = 57 → hI h' m k = hI h m k
theorem Gq.rfl' {m : Nat} {h : Hp} : Gq m h h := ⟨rfl, fun _ => rfl, fun _ _ => rfl, fun _ _ _ _ _ _ _ => rfl, fun _ _ => rfl, fun _ _ => rfl⟩
theorem Gq.trans {m : Nat} {h h1 h2 : Hp} (p : Gq m h h1) (q : Gq m h1 h2) : Gq m h h2 := ⟨q.1.trans p.1, fun a => (q.2.1 a).trans (p.2.1 a), fun a k => (q.2.2.1 a k).trans (p.2.2.1 a k), fun a c1 c2 c3 c4 c5 k => (q.2.2.2.1 a c1 c2 c3 c4 c5 k).trans (p.2.2.2.1 a c1 c2 c3 c4 c5 k), fun k hk => (q.2.2.2.2.1 k hk).trans (p.2.2.2.2.1 k hk), fun k hk => (q.2.2.2.2.2 k hk).trans (p.2.2.2.2.2 k hk)⟩
theorem Fm.gq {m : Nat} {h h' : Hp} (f : Fm m h h') : Gq m h h' := ⟨f.1, f.2.1, f.2.2.1, fun a c1 c2 c3 c4 c5 k => f.2.2.2.1 a c1 (by omega) (by omega) k, fun k _ => f.2.2.2.1 (m + 5) (by omega) (by omega) (by omega) k, fun k hk => f.2.2.2.2 k (by omega) (by omega) (by omega) (by omega)⟩
theorem Gq.xm {m : Nat} {h h' : Hp} (f : Gq m h h') : Xm m h h' := ⟨f.1, f.2.1, f.2.2.1, fun a ha k => f.2.2.2.1 a (by omega) (by omega) (by omega) (by omega) (by omega) k⟩
/-- fields of the reference that are only used while it works -/
theorem Gq.fld {m : Nat} {h h1 : Hp} {k x : Int} (p : Gq m h h1) (hk : ¬ (k = 1 ∨ k = 8 ∨ k = 11 ∨ k = 13 ∨ k = 18 ∨ k = 20 ∨ k = 53 ∨ k = 57)) : Gq m h (sI h1 m k x) := p.trans ⟨rfl, fun _ => rfl, fun _ _ => rfl, fun a c1 _ _ _ _ j => g_In c1, fun j _ => g_In (by omega), fun j hj => g_Ij (fun e => hk (e ▸ hj))⟩
theorem Gq.arr {m a : Nat} {h h1 : Hp} {k x : Int} (p : Gq m h h1) (ha : (m + 10 ≤ a ∧ a ≤ m + 14) ∨ (m + 18 ≤ a ∧ a ≤ m + 26) ∨ a = m + 28) : Gq m h (sI h1 a k x) := p.trans ⟨rfl, fun _ => rfl, fun _ _ => rfl, fun q c1 c2 c3 c4 c5 j => g_In (by omega), fun j _ => g_In (by omega), fun j hj => g_In (by omega)⟩
theorem Gq.md {m : Nat} {h h1 : Hp} (a : Gq m h h1) (M : MdS h m) : MdS h1 m := M.sm (fun q _ _ => a.2.1 q) (fun k => a.2.2.1 m k)
theorem MS.q {h h' : Hp} {m : Nat} {τ : Tw} {Λ : Lw} {tp : Int → Int} {tl : Int} {ob rf : Int → Int} {U : Pst} {im : Img} {dr : Option Tw} (H : MS h m τ Λ tp tl ob rf U im dr) (f : Gq m h h') : MS h' m τ Λ tp tl ob rf U im dr := by
  obtain ⟨a1, a2, a3, a4, a5, a6, a7, ⟨b1, b2, b3⟩, a9, a10, a11⟩ := H
  have z : ∀ i, i = 1 ∨ i = 2 ∨ i = 3 ∨ i = 4 ∨ i = 6 ∨ i = 9 ∨ i = 15 ∨ i = 16 ∨ i = 17 ∨ i = 27 ∨ i = 29 → hI h' (m + i) = hI h (m + i) := fun i hi => funext (f.2.2.2.1 (m + i) (by omega) (by omega) (by omega) (by omega) (by omega))
  have y := f.2.2.2.2.2
  have z2 := fun k => congrFun (z 2 (by omega)) k
  refine ⟨f.md a1, a2.sm z2, fun l l0 l1 => ⟨(a3 l l0 l1).1.sm z2, (a3 l l0 l1).2⟩, by rw [y 20 (by omega)]; exact a4, ?_, ?_, ?_, ⟨by rw [y 8 (by omega)]; exact b1, b2, fun k hk => ?_⟩, ?_, ?_, ?_⟩
  · rw [y 13 (by omega), z 9 (by omega)]; exact a5
  · rw [y 1 (by omega), y 18 (by omega), y 53 (by omega), y 11 (by omega)]; exact a6
  · rw [z 1 (by omega)]; exact a7
  · obtain ⟨c1, c2, c3, c4⟩ := b3 k hk
    rw [z 6 (by omega)]
    exact ⟨c1, fun j j0 j1 => by rw [f.2.2.2.2.1 _ (by omega)]; exact c2 j j0 j1, fun j j0 j1 => by rw [f.2.2.2.2.1 _ (by omega)]; exact c3 j j0 j1, fun j j0 j1 => by rw [f.2.2.2.2.1 _ (by omega)]; exact c4 j j0 j1⟩
  · unfold ImM; rw [z 4 (by omega), z 3 (by omega)]; exact a9
  · unfold DrM; rw [y 57 (by omega), z 29 (by omega)]; exact a10
  · unfold MCn; rw [z 15 (by omega), z 16 (by omega), z 17 (by omega), z 27 (by omega)]; exact a11
/-- the law in force -/
def alOf (τ : Tw) (Λ : Lw) : List Cls := if τ 0 14 < 0 then [] else Λ (τ 0 14)
theorem MS.mj {G : Gv} {h : Hp} {m : Nat} {τ : Tw} {Λ : Lw} {tp : Int → Int} {tl : Int} {ob rf : Int → Int} {U : Pst} {im : Img} {dr : Option Tw} (H : MS h m τ Λ tp tl ob rf U im dr) (hB : gB G ≤ m) (W : WT τ) : MJ G h m τ (alOf τ Λ) := by
  have l := W.lf
  have l2 := W.ln
  unfold alOf
  by_cases c : τ 0 14 < 0
  · rw [if_pos c]
    exact ⟨hB, H.1, H.2.1, H.2.2.2.1, fun c hc => (by cases hc), Or.inl ⟨by omega, rfl⟩⟩
  · rw [if_neg c]
    obtain ⟨q1, q2⟩ := H.2.2.1 (τ 0 14) (by omega) (by omega)
    exact ⟨hB, H.1, H.2.1, H.2.2.2.1, q2, Or.inr ⟨by omega, by omega, q1⟩⟩
