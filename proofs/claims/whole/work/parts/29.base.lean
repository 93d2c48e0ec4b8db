/-! Words for contracts. -/
abbrev RI (x : Int) (P : Hp → Prop) : Post := fun r h' => r = some (vi x) ∧ P h'
abbrev RJ (x : Int) (P : Hp → Prop) : Post := fun r h' => r = some (vl x) ∧ P h'
abbrev RQ (x : Option Nat) (P : Hp → Prop) : Post := fun r h' => r = some (vq x) ∧ P h'
abbrev RV (P : Hp → Prop) : Post := fun r h' => r = none ∧ P h'
theorem RI.mk {x y : Int} {P : Hp → Prop} {h : Hp} (e : y = x) (p : P h) : RI x P (some (vi y)) h := ⟨by rw [e], p⟩
theorem RJ.mk {x y : Int} {P : Hp → Prop} {h : Hp} (e : y = x) (p : P h) : RJ x P (some (vl y)) h := ⟨by rw [e], p⟩
theorem MA.mono {G : Gv} {M : Mt} {d kc ks : Nat} {as : List AV} {h : Hp} {Q Q' : Post} (hm : MA G M d kc ks as h Q) (hQ : ∀ r h', Q r h' → Q' r h') : MA G M d kc ks as h Q' := by
  intro p e ha hc hk s m args below hf hap hP hT
  obtain ⟨n, o, h1, h2, h3, ⟨⟨r, h', q1, q2, q3⟩, h4⟩⟩ := hm p e ha hc hk s m args below hf hap hP hT
  exact ⟨n, o, h1, h2, h3, ⟨⟨r, h', q1, hQ r h' q2, q3⟩, h4⟩⟩
def sm (f : Int → Int) : Nat → Int
  | 0 => 0
  | n + 1 => sm f n + f n
/-- f 0 + .. + f (n - 1) -/
def su (f : Int → Int) (n : Int) : Int := sm f n.toNat
theorem su_0 (f : Int → Int) : su f 0 = 0 := rfl
theorem su_s (f : Int → Int) {i : Int} (h : 0 ≤ i) : su f (i + 1) = su f i + f i := by
  unfold su
  rw [show (i + 1).toNat = i.toNat + 1 by omega]
  show sm f i.toNat + f (i.toNat : Int) = _
  rw [show ((i.toNat : Nat) : Int) = i by omega]
theorem sm_congr {f g : Int → Int} : ∀ n : Nat, (∀ i : Int, 0 ≤ i → i < n → f i = g i) → sm f n = sm g n
  | 0, _ => rfl
  | n + 1, h => by
    show sm f n + f n = sm g n + g n
    rw [sm_congr n (fun i h0 h1 => h i h0 (by omega)), h n (by omega) (by omega)]
theorem su_congr {f g : Int → Int} {n : Int} (h : ∀ i : Int, 0 ≤ i → i < n → f i = g i) : su f n = su g n := sm_congr _ (fun i h0 h1 => h i h0 (by omega))
theorem su_bd {f : Int → Int} {n lo hi : Int} (hn : 0 ≤ n) (h : ∀ i : Int, 0 ≤ i → i < n → lo ≤ f i ∧ f i ≤ hi) : lo * n ≤ su f n ∧ su f n ≤ hi * n := by
  have key : ∀ m : Nat, (m : Int) ≤ n → lo * m ≤ sm f m ∧ sm f m ≤ hi * m := by
    intro m
    induction m with
    | zero => intro _; simp [sm]
    | succ m ih =>
      intro hm
      obtain ⟨a, b⟩ := ih (by omega)
      obtain ⟨c, d⟩ := h m (by omega) (by omega)
      have e1 : lo * ((m + 1 : Nat) : Int) = lo * m + lo := by rw [Int.natCast_add, Int.mul_add]; simp
      have e2 : hi * ((m + 1 : Nat) : Int) = hi * m + hi := by rw [Int.natCast_add, Int.mul_add]; simp
      show _ ≤ sm f m + f m ∧ sm f m + f m ≤ _
      omega
  have := key n.toNat (by omega)
  rw [show ((n.toNat : Nat) : Int) = n by omega] at this
  exact this
/-- writes read back -/
theorem g_Ie {h : Hp} {a : Nat} {j x : Int} : hI (sI h a j x) a j = x := by rw [hI_sI, if_pos ⟨rfl, rfl⟩]
theorem g_In {h : Hp} {a b : Nat} {j x k : Int} (hb : b ≠ a) : hI (sI h a j x) b k = hI h b k := by rw [hI_sI, if_neg (fun q => hb q.1)]
theorem g_Ij {h : Hp} {a b : Nat} {j x k : Int} (hb : k ≠ j) : hI (sI h a j x) b k = hI h b k := by rw [hI_sI, if_neg (fun q => hb q.2)]
theorem g_Re {h : Hp} {a : Nat} {j : Int} {x : Option Nat} : hR (sR h a j x) a j = x := by rw [hR_sR, if_pos ⟨rfl, rfl⟩]
theorem g_Rn {h : Hp} {a b : Nat} {j k : Int} {x : Option Nat} (hb : b ≠ a) : hR (sR h a j x) b k = hR h b k := by rw [hR_sR, if_neg (fun q => hb q.1)]
theorem g_Rj {h : Hp} {a b : Nat} {j k : Int} {x : Option Nat} (hb : k ≠ j) : hR (sR h a j x) b k = hR h b k := by rw [hR_sR, if_neg (fun q => hb q.2)]
theorem g_Cn {h : Hp} {a0 a b : Nat} {sp dp n k : Int} (hb : b ≠ a) : hI (cpI h a0 sp a dp n) b k = hI h b k := by rw [hI_cpI, if_neg (fun q => hb q.1)]
theorem g_Co {h : Hp} {a0 a b : Nat} {sp dp n k : Int} (hb : k < dp ∨ dp + n ≤ k) : hI (cpI h a0 sp a dp n) b k = hI h b k := by rw [hI_cpI, if_neg (fun q => by omega)]
theorem g_Ci {h : Hp} {a0 a : Nat} {sp dp n k : Int} (h1 : dp ≤ k) (h2 : k < dp + n) : hI (cpI h a0 sp a dp n) a k = hI h a0 (sp + (k - dp)) := by rw [hI_cpI, if_pos ⟨rfl, h1, h2⟩]
/-- a heap that differs from another one in cells of S alone -/
def Fr (S : Nat → Prop) (h h' : Hp) : Prop := hN h' = hN h ∧ (∀ a, hS h' a = hS h a) ∧ ∀ a, ¬ S a → (∀ k, hI h' a k = hI h a k) ∧ ∀ k, hR h' a k = hR h a k
theorem Fr.rfl' {S : Nat → Prop} {h : Hp} : Fr S h h := ⟨rfl, fun _ => rfl, fun _ _ => ⟨fun _ => rfl, fun _ => rfl⟩⟩
theorem Fr.trans {S : Nat → Prop} {h h1 h2 : Hp} (a : Fr S h h1) (b : Fr S h1 h2) : Fr S h h2 := ⟨b.1.trans a.1, fun x => (b.2.1 x).trans (a.2.1 x), fun x hx => ⟨fun k => ((b.2.2 x hx).1 k).trans ((a.2.2 x hx).1 k), fun k => ((b.2.2 x hx).2 k).trans ((a.2.2 x hx).2 k)⟩⟩
theorem Fr.mono {S S' : Nat → Prop} {h h1 : Hp} (a : Fr S h h1) (hS : ∀ x, S x → S' x) : Fr S' h h1 := ⟨a.1, a.2.1, fun x hx => a.2.2 x (fun q => hx (hS x q))⟩
theorem Fr.sI {S : Nat → Prop} {h h1 : Hp} {a : Nat} {j x : Int} (q : Fr S h h1) (ha : S a) : Fr S h (sI h1 a j x) := q.trans ⟨rfl, fun _ => rfl, fun b hb => sI_off b (fun e => hb (e ▸ ha))⟩
theorem Fr.sR {S : Nat → Prop} {h h1 : Hp} {a : Nat} {j : Int} {x : Option Nat} (q : Fr S h h1) (ha : S a) : Fr S h (sR h1 a j x) := q.trans ⟨rfl, fun _ => rfl, fun b hb => sR_off b (fun e => hb (e ▸ ha))⟩
theorem Fr.cp {S : Nat → Prop} {h h1 : Hp} {a0 a : Nat} {sp dp n : Int} (q : Fr S h h1) (ha : S a) : Fr S h (cpI h1 a0 sp a dp n) := q.trans ⟨rfl, fun _ => rfl, fun b hb => ⟨fun k => g_Cn (fun e => hb (e ▸ ha)), fun _ => rfl⟩⟩
/-- branches that arithmetic decides -/
theorem br_pos {p q s : Prop} (h : p) : ((p → q) ∧ (¬ p → s)) = q := propext ⟨fun z => z.1 h, fun z => ⟨fun _ => z, fun c => absurd h c⟩⟩
theorem br_neg {p q s : Prop} (h : ¬ p) : ((p → q) ∧ (¬ p → s)) = s := propext ⟨fun z => z.2 h, fun z => ⟨fun c => absurd c h, fun _ => z⟩⟩
theorem br_pos' {p q s : Prop} (h : ¬ p) : ((¬ p → q) ∧ (p → s)) = q := propext ⟨fun z => z.1 h, fun z => ⟨fun _ => z, fun c => absurd c h⟩⟩
theorem br_neg' {p q s : Prop} (h : p) : ((¬ p → q) ∧ (p → s)) = s := propext ⟨fun z => z.2 h, fun z => ⟨fun c => absurd h c, fun _ => z⟩⟩
theorem im_pos {p q : Prop} (h : p) : (p → q) = q := propext ⟨fun z => z h, fun z _ => z⟩
theorem add_m1 (x : Int) : x + -1 = x - 1 := rfl
theorem im_neg {p q : Prop} (h : ¬ p) : (p → q) = True := propext ⟨fun _ => trivial, fun _ c => absurd c h⟩
