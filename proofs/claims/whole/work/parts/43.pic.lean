/-! Pictures of towns. -/
abbrev Tw : Type := Nat → Int → Int
/-- the town at t is the picture τ: rows 1 .. 10, single numbers 0 11 .. 0 14 -/
def TwR (h : Hp) (t : Nat) (τ : Tw) : Prop := TwS h t ∧ (∀ i : Nat, 1 ≤ i → i ≤ 10 → ∀ k, 0 ≤ k → k < twL i → hI h (t + i) k = τ i k) ∧ ∀ k, 11 ≤ k → k ≤ 14 → hI h t k = τ 0 k
theorem TwR.e1 {h : Hp} {t : Nat} {τ : Tw} (H : TwR h t τ) {k : Int} (h0 : 0 ≤ k) (h1 : k < 25) : hI h (t + 1) k = τ 1 k := H.2.1 1 (by omega) (by omega) k h0 h1
theorem TwR.e2 {h : Hp} {t : Nat} {τ : Tw} (H : TwR h t τ) {k : Int} (h0 : 0 ≤ k) (h1 : k < 8) : hI h (t + 2) k = τ 2 k := H.2.1 2 (by omega) (by omega) k h0 h1
theorem TwR.e3 {h : Hp} {t : Nat} {τ : Tw} (H : TwR h t τ) {k : Int} (h0 : 0 ≤ k) (h1 : k < 8) : hI h (t + 3) k = τ 3 k := H.2.1 3 (by omega) (by omega) k h0 h1
theorem TwR.e4 {h : Hp} {t : Nat} {τ : Tw} (H : TwR h t τ) {k : Int} (h0 : 0 ≤ k) (h1 : k < 8) : hI h (t + 4) k = τ 4 k := H.2.1 4 (by omega) (by omega) k h0 h1
theorem TwR.e5 {h : Hp} {t : Nat} {τ : Tw} (H : TwR h t τ) {k : Int} (h0 : 0 ≤ k) (h1 : k < 8) : hI h (t + 5) k = τ 5 k := H.2.1 5 (by omega) (by omega) k h0 h1
theorem TwR.e6 {h : Hp} {t : Nat} {τ : Tw} (H : TwR h t τ) {k : Int} (h0 : 0 ≤ k) (h1 : k < 8) : hI h (t + 6) k = τ 6 k := H.2.1 6 (by omega) (by omega) k h0 h1
theorem TwR.e7 {h : Hp} {t : Nat} {τ : Tw} (H : TwR h t τ) {k : Int} (h0 : 0 ≤ k) (h1 : k < 64) : hI h (t + 7) k = τ 7 k := H.2.1 7 (by omega) (by omega) k h0 h1
theorem TwR.e8 {h : Hp} {t : Nat} {τ : Tw} (H : TwR h t τ) {k : Int} (h0 : 0 ≤ k) (h1 : k < 2) : hI h (t + 8) k = τ 8 k := H.2.1 8 (by omega) (by omega) k h0 h1
theorem TwR.e9 {h : Hp} {t : Nat} {τ : Tw} (H : TwR h t τ) {k : Int} (h0 : 0 ≤ k) (h1 : k < 8) : hI h (t + 9) k = τ 9 k := H.2.1 9 (by omega) (by omega) k h0 h1
theorem TwR.e10 {h : Hp} {t : Nat} {τ : Tw} (H : TwR h t τ) {k : Int} (h0 : 0 ≤ k) (h1 : k < 8) : hI h (t + 10) k = τ 10 k := H.2.1 10 (by omega) (by omega) k h0 h1
theorem TwR.n11 {h : Hp} {t : Nat} {τ : Tw} (H : TwR h t τ) : hI h t 11 = τ 0 11 := H.2.2 11 (by omega) (by omega)
theorem TwR.n12 {h : Hp} {t : Nat} {τ : Tw} (H : TwR h t τ) : hI h t 12 = τ 0 12 := H.2.2 12 (by omega) (by omega)
theorem TwR.n13 {h : Hp} {t : Nat} {τ : Tw} (H : TwR h t τ) : hI h t 13 = τ 0 13 := H.2.2 13 (by omega) (by omega)
theorem TwR.n14 {h : Hp} {t : Nat} {τ : Tw} (H : TwR h t τ) : hI h t 14 = τ 0 14 := H.2.2 14 (by omega) (by omega)
/-- h' is as h in the cells of S -/
def Sm (S : Nat → Prop) (h h' : Hp) : Prop := ∀ a, S a → hS h' a = hS h a ∧ (∀ k, hI h' a k = hI h a k) ∧ ∀ k, hR h' a k = hR h a k
theorem Fr.sm {S T : Nat → Prop} {h h' : Hp} (f : Fr S h h') (hT : ∀ a, T a → ¬ S a) : Sm T h h' := fun a ha => ⟨f.2.1 a, f.2.2 a (hT a ha)⟩
theorem TwS.sm {h h' : Hp} {t : Nat} (H : TwS h t) (f : Sm (fun a => t ≤ a ∧ a ≤ t + 11) h h') : TwS h' t := by
  obtain ⟨s0, s1, s2, s3, s4, s5, s6, s7, s8, s9, s10, s11, r0, r1, r2, r3, r4, r5, r6, r7, r8, r9, r10⟩ := H
  exact ⟨(f (t + 0) ⟨by omega, by omega⟩).1.trans s0, (f (t + 1) ⟨by omega, by omega⟩).1.trans s1, (f (t + 2) ⟨by omega, by omega⟩).1.trans s2, (f (t + 3) ⟨by omega, by omega⟩).1.trans s3, (f (t + 4) ⟨by omega, by omega⟩).1.trans s4, (f (t + 5) ⟨by omega, by omega⟩).1.trans s5, (f (t + 6) ⟨by omega, by omega⟩).1.trans s6, (f (t + 7) ⟨by omega, by omega⟩).1.trans s7, (f (t + 8) ⟨by omega, by omega⟩).1.trans s8, (f (t + 9) ⟨by omega, by omega⟩).1.trans s9, (f (t + 10) ⟨by omega, by omega⟩).1.trans s10, (f (t + 11) ⟨by omega, by omega⟩).1.trans s11, ((f t ⟨by omega, by omega⟩).2.2 0).trans r0, ((f t ⟨by omega, by omega⟩).2.2 1).trans r1, ((f t ⟨by omega, by omega⟩).2.2 2).trans r2, ((f t ⟨by omega, by omega⟩).2.2 3).trans r3, ((f t ⟨by omega, by omega⟩).2.2 4).trans r4, ((f t ⟨by omega, by omega⟩).2.2 5).trans r5, ((f t ⟨by omega, by omega⟩).2.2 6).trans r6, ((f t ⟨by omega, by omega⟩).2.2 7).trans r7, ((f t ⟨by omega, by omega⟩).2.2 8).trans r8, ((f t ⟨by omega, by omega⟩).2.2 9).trans r9, ((f t ⟨by omega, by omega⟩).2.2 10).trans r10⟩
theorem TwR.sm {h h' : Hp} {t : Nat} {τ : Tw} (H : TwR h t τ) (f : Sm (fun a => t ≤ a ∧ a ≤ t + 11) h h') : TwR h' t τ :=
  ⟨H.1.sm f, fun i i1 i2 k k0 k1 => ((f (t + i) ⟨by omega, by omega⟩).2.1 k).trans (H.2.1 i i1 i2 k k0 k1), fun k k0 k1 => ((f t ⟨by omega, by omega⟩).2.1 k).trans (H.2.2 k k0 k1)⟩
theorem TxS.sm {h h' : Hp} {x n m : Nat} (H : TxS h x n m) (f : Sm (fun a => x ≤ a ∧ a ≤ x + 8) h h') : TxS h' x n m := by
  obtain ⟨t0, t1, t2, t3, t4, t5, t6, t7, t8, u0, u1, u2, u3, u4, u5, u6, u7⟩ := H
  exact ⟨(f (x + 0) ⟨by omega, by omega⟩).1.trans t0, (f (x + 1) ⟨by omega, by omega⟩).1.trans t1, (f (x + 2) ⟨by omega, by omega⟩).1.trans t2, (f (x + 3) ⟨by omega, by omega⟩).1.trans t3, (f (x + 4) ⟨by omega, by omega⟩).1.trans t4, (f (x + 5) ⟨by omega, by omega⟩).1.trans t5, (f (x + 6) ⟨by omega, by omega⟩).1.trans t6, (f (x + 7) ⟨by omega, by omega⟩).1.trans t7, (f (x + 8) ⟨by omega, by omega⟩).1.trans t8, ((f x ⟨by omega, by omega⟩).2.2 0).trans u0, ((f x ⟨by omega, by omega⟩).2.2 1).trans u1, ((f x ⟨by omega, by omega⟩).2.2 2).trans u2, ((f x ⟨by omega, by omega⟩).2.2 3).trans u3, ((f x ⟨by omega, by omega⟩).2.2 4).trans u4, ((f x ⟨by omega, by omega⟩).2.2 5).trans u5, ((f x ⟨by omega, by omega⟩).2.2 6).trans u6, ((f x ⟨by omega, by omega⟩).2.2 7).trans u7⟩
theorem TxR.sm {h h' : Hp} {x n m : Nat} {al : List Cls} (H : TxR h x n m al) (f : Sm (fun a => x ≤ a ∧ a ≤ x + 8) h h') : TxR h' x n m al := by
  have e : ∀ i : Nat, i ≤ 8 → hI h' (x + i) = hI h (x + i) := fun i hi => funext (fun k => (f (x + i) ⟨by omega, by omega⟩).2.1 k)
  have e0 : hI h' x = hI h x := e 0 (by omega)
  obtain ⟨a, b, c, d, g, i, j, k⟩ := H
  refine ⟨a.sm f, b, c, by rw [e0]; exact d, g, by rw [e0]; exact i, by rw [e0]; exact j, ?_⟩
  rw [e 1 (by omega), e 2 (by omega), e 3 (by omega), e 4 (by omega), e 6 (by omega), e 7 (by omega), e0]
  exact k
/-- what a town's numbers may be -/
def WT (τ : Tw) : Prop :=
  (0 ≤ τ 0 11 ∧ τ 0 11 ≤ 8) ∧ (∀ k, 0 ≤ k → k < 25 → 0 ≤ τ 1 k ∧ τ 1 k ≤ 9) ∧ (∀ k, 0 ≤ k → k < 8 → (0 ≤ τ 2 k ∧ τ 2 k < 25) ∧ (0 ≤ τ 3 k ∧ τ 3 k ≤ 99) ∧ (0 ≤ τ 4 k ∧ τ 4 k ≤ 9) ∧ (0 ≤ τ 5 k ∧ τ 5 k ≤ 9) ∧ (τ 6 k = 0 ∨ τ 6 k = 1)) ∧
  (∀ k, 0 ≤ k → k < 64 → 0 ≤ τ 7 k ∧ τ 7 k ≤ 99) ∧ (0 ≤ τ 8 0 ∧ τ 8 0 ≤ 9999) ∧ (0 ≤ τ 8 1 ∧ τ 8 1 ≤ 9) ∧ (0 ≤ τ 0 12 ∧ τ 0 12 ≤ 8) ∧
  (∀ k, 0 ≤ k → k < τ 0 12 → (0 ≤ τ 9 k ∧ τ 9 k < τ 0 11) ∧ (-1 ≤ τ 10 k ∧ τ 10 k < τ 0 11) ∧ τ 9 k ≠ τ 10 k) ∧ (0 ≤ τ 0 13 ∧ τ 0 13 ≤ 6) ∧ (-1 ≤ τ 0 14 ∧ τ 0 14 < τ 0 13) ∧
  ∀ i j, 0 ≤ i → i < 8 → 0 ≤ j → j < 8 → i = j ∨ τ 0 11 ≤ i ∨ τ 0 11 ≤ j → τ 7 (i * 8 + j) = 0
theorem WT.n {τ : Tw} (W : WT τ) : 0 ≤ τ 0 11 ∧ τ 0 11 ≤ 8 := W.1
theorem WT.du {τ : Tw} (W : WT τ) {k : Int} (h0 : 0 ≤ k) (h1 : k < 25) : 0 ≤ τ 1 k ∧ τ 1 k ≤ 9 := W.2.1 k h0 h1
theorem WT.pl {τ : Tw} (W : WT τ) {k : Int} (h0 : 0 ≤ k) (h1 : k < 8) : 0 ≤ τ 2 k ∧ τ 2 k < 25 := (W.2.2.1 k h0 h1).1
theorem WT.ag {τ : Tw} (W : WT τ) {k : Int} (h0 : 0 ≤ k) (h1 : k < 8) : 0 ≤ τ 3 k ∧ τ 3 k ≤ 99 := (W.2.2.1 k h0 h1).2.1
theorem WT.ea {τ : Tw} (W : WT τ) {k : Int} (h0 : 0 ≤ k) (h1 : k < 8) : 0 ≤ τ 4 k ∧ τ 4 k ≤ 9 := (W.2.2.1 k h0 h1).2.2.1
theorem WT.co {τ : Tw} (W : WT τ) {k : Int} (h0 : 0 ≤ k) (h1 : k < 8) : 0 ≤ τ 5 k ∧ τ 5 k ≤ 9 := (W.2.2.1 k h0 h1).2.2.2.1
theorem WT.ma {τ : Tw} (W : WT τ) {k : Int} (h0 : 0 ≤ k) (h1 : k < 8) : τ 6 k = 0 ∨ τ 6 k = 1 := (W.2.2.1 k h0 h1).2.2.2.2
theorem WT.ow {τ : Tw} (W : WT τ) {k : Int} (h0 : 0 ≤ k) (h1 : k < 64) : 0 ≤ τ 7 k ∧ τ 7 k ≤ 99 := W.2.2.2.1 k h0 h1
theorem WT.mi {τ : Tw} (W : WT τ) : 0 ≤ τ 8 0 ∧ τ 8 0 ≤ 9999 := W.2.2.2.2.1
theorem WT.mo {τ : Tw} (W : WT τ) : 0 ≤ τ 8 1 ∧ τ 8 1 ≤ 9 := W.2.2.2.2.2.1
theorem WT.sn {τ : Tw} (W : WT τ) : 0 ≤ τ 0 12 ∧ τ 0 12 ≤ 8 := W.2.2.2.2.2.2.1
theorem WT.se {τ : Tw} (W : WT τ) {k : Int} (h0 : 0 ≤ k) (h1 : k < τ 0 12) : (0 ≤ τ 9 k ∧ τ 9 k < τ 0 11) ∧ (-1 ≤ τ 10 k ∧ τ 10 k < τ 0 11) ∧ τ 9 k ≠ τ 10 k := W.2.2.2.2.2.2.2.1 k h0 h1
theorem WT.ln {τ : Tw} (W : WT τ) : 0 ≤ τ 0 13 ∧ τ 0 13 ≤ 6 := W.2.2.2.2.2.2.2.2.1
theorem WT.lf {τ : Tw} (W : WT τ) : -1 ≤ τ 0 14 ∧ τ 0 14 < τ 0 13 := W.2.2.2.2.2.2.2.2.2.1
theorem WT.oz {τ : Tw} (W : WT τ) {i j : Int} (i0 : 0 ≤ i) (i8 : i < 8) (j0 : 0 ≤ j) (j8 : j < 8) (h : i = j ∨ τ 0 11 ≤ i ∨ τ 0 11 ≤ j) : τ 7 (i * 8 + j) = 0 := W.2.2.2.2.2.2.2.2.2.2 i j i0 i8 j0 j8 h
theorem dist_bd {a b : Int} (ha : 0 ≤ a) (ha2 : a < 25) (hb : 0 ≤ b) (hb2 : b < 25) : 0 ≤ dist a b ∧ dist a b ≤ 8 := by
  unfold dist iabs
  split <;> split <;> omega
/-- Town's contracts in pictures -/
theorem T_far {G : Gv} {d : Nat} {h : Hp} {t : Nat} {τ : Tw} {x y : Int} (H : TwR h t τ) (W : WT τ) (hd : 1 ≤ d) (hx : 0 ≤ x) (hx8 : x < 8) (hy : 0 ≤ y) (hy8 : y < 8) : MA G M_X10_far d 0 0 [vr t, vi x, vi y] h (RI (dist (τ 2 x) (τ 2 y)) (h = ·)) := by
  have e := t_far (G := G) (x := x) (y := y) H.1 hd hx hx8 hy hy8 (by rw [H.e2 hx hx8]; exact W.pl hx hx8) (by rw [H.e2 hy hy8]; exact W.pl hy hy8)
  rw [H.e2 hx hx8, H.e2 hy hy8] at e
  exact e
theorem T_has {G : Gv} {d : Nat} {h : Hp} {t : Nat} {τ : Tw} {x : Int} (H : TwR h t τ) : MA G M_X10_has d 0 0 [vr t, vi x] h (RI (if 0 ≤ x ∧ x < τ 0 11 then 1 else 0) (h = ·)) := by
  have e := t_has (G := G) (d := d) (x := x) H.1
  rw [H.n11] at e
  exact e
theorem T_hasBoth {G : Gv} {d : Nat} {h : Hp} {t : Nat} {τ : Tw} {x y : Int} (H : TwR h t τ) (hd : 1 ≤ d) : MA G M_X10_hasBoth d 0 0 [vr t, vi x, vi y] h (RI (if x ≠ y ∧ 0 ≤ x ∧ x < τ 0 11 ∧ 0 ≤ y ∧ y < τ 0 11 then 1 else 0) (h = ·)) := by
  have e := t_hasBoth (G := G) (x := x) (y := y) H.1 hd
  rw [H.n11] at e
  exact e
theorem T_hasLawOrNone {G : Gv} {d : Nat} {h : Hp} {t : Nat} {τ : Tw} {x : Int} (H : TwR h t τ) : MA G M_X10_hasLawOrNone d 0 0 [vr t, vi x] h (RI (if -1 ≤ x ∧ x < τ 0 13 then 1 else 0) (h = ·)) := by
  have e := t_hasLawOrNone (G := G) (d := d) (x := x) H.1
  rw [H.n13] at e
  exact e
theorem T_peopleIn {G : Gv} {d : Nat} {h : Hp} {t : Nat} {τ : Tw} {w : Int} (H : TwR h t τ) (W : WT τ) : MA G M_X10_peopleIn d 0 0 [vr t, vi w] h (RI (su (fun i => if τ 2 i = w then 1 else 0) (τ 0 11)) (h = ·)) := by
  have e := t_peopleIn (G := G) (d := d) (w := w) H.1 (by rw [H.n11]; exact W.n.1) (by rw [H.n11]; exact W.n.2)
  have := W.n
  rw [H.n11, su_congr (g := fun i => if τ 2 i = w then 1 else 0) (fun i i0 i1 => by rw [H.e2 i0 (by omega)])] at e
  exact e
theorem T_maskedOnes {G : Gv} {d : Nat} {h : Hp} {t : Nat} {τ : Tw} (H : TwR h t τ) (W : WT τ) : MA G M_X10_maskedOnes d 0 0 [vr t] h (RI (su (fun i => τ 6 i) (τ 0 11)) (h = ·)) := by
  have e := t_maskedOnes (G := G) (d := d) H.1 (by rw [H.n11]; exact W.n.1) (by rw [H.n11]; exact W.n.2) (fun j j0 j1 => by rw [H.e6 j0 j1]; have := W.ma j0 j1; omega)
  have := W.n
  rw [H.n11, su_congr (g := fun i => τ 6 i) (fun i i0 i1 => by rw [H.e6 i0 (by omega)])] at e
  exact e
def owT (τ : Tw) (p : Int) : Int := su (fun i => τ 7 (i * 8 + p)) (τ 0 11)
def owB (τ : Tw) (p : Int) : Int := su (fun i => τ 7 (p * 8 + i)) (τ 0 11)
def owA (τ : Tw) : Int := su (fun p => owB τ p) (τ 0 11)
theorem owT_bd {τ : Tw} (W : WT τ) {p : Int} (h0 : 0 ≤ p) (h1 : p < 8) : 0 ≤ owT τ p ∧ owT τ p ≤ 792 := by
  have n := W.n
  have := su_bd (f := fun i => τ 7 (i * 8 + p)) (lo := 0) (hi := 99) n.1 (fun i i0 i1 => W.ow (by omega) (by omega))
  unfold owT
  omega
theorem owB_bd {τ : Tw} (W : WT τ) {p : Int} (h0 : 0 ≤ p) (h1 : p < 8) : 0 ≤ owB τ p ∧ owB τ p ≤ 792 := by
  have n := W.n
  have := su_bd (f := fun i => τ 7 (p * 8 + i)) (lo := 0) (hi := 99) n.1 (fun i i0 i1 => W.ow (by omega) (by omega))
  unfold owB
  omega
theorem T_owedTo {G : Gv} {d : Nat} {h : Hp} {t : Nat} {τ : Tw} {p : Int} (H : TwR h t τ) (W : WT τ) (hp : 0 ≤ p) (hp8 : p < 8) : MA G M_X10_owedTo d 0 0 [vr t, vi p] h (RI (owT τ p) (h = ·)) := by
  have e := t_owedTo (G := G) (d := d) (p := p) H.1 (by rw [H.n11]; exact W.n.1) (by rw [H.n11]; exact W.n.2) hp hp8 (fun j j0 j1 => by rw [H.e7 j0 j1]; exact W.ow j0 j1)
  have := W.n
  rw [H.n11, su_congr (g := fun i => τ 7 (i * 8 + p)) (fun i i0 i1 => by rw [H.e7 (by omega) (by omega)])] at e
  exact e
theorem T_owedBy {G : Gv} {d : Nat} {h : Hp} {t : Nat} {τ : Tw} {p : Int} (H : TwR h t τ) (W : WT τ) (hp : 0 ≤ p) (hp8 : p < 8) : MA G M_X10_owedBy d 0 0 [vr t, vi p] h (RI (owB τ p) (h = ·)) := by
  have e := t_owedBy (G := G) (d := d) (p := p) H.1 (by rw [H.n11]; exact W.n.1) (by rw [H.n11]; exact W.n.2) hp hp8 (fun j j0 j1 => by rw [H.e7 j0 j1]; exact W.ow j0 j1)
  have := W.n
  rw [H.n11, su_congr (g := fun i => τ 7 (p * 8 + i)) (fun i i0 i1 => by rw [H.e7 (by omega) (by omega)])] at e
  exact e
theorem T_owedInAll {G : Gv} {d : Nat} {h : Hp} {t : Nat} {τ : Tw} (H : TwR h t τ) (W : WT τ) (hd : 1 ≤ d) : MA G M_X10_owedInAll d 0 0 [vr t] h (RI (owA τ) (h = ·)) := by
  have e := t_owedInAll (G := G) H.1 hd (by rw [H.n11]; exact W.n.1) (by rw [H.n11]; exact W.n.2) (fun j j0 j1 => by rw [H.e7 j0 j1]; exact W.ow j0 j1)
  have := W.n
  rw [H.n11, su_congr (g := fun p => owB τ p) (fun p p0 p1 => su_congr (fun i i0 i1 => by rw [H.e7 (by omega) (by omega)]))] at e
  exact e
