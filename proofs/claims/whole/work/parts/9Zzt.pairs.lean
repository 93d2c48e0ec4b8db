/-! The class and the reference, call by call: the same answer, the same state. -/
section
variable {G : Gv} {h h0 h1 h2 h' : Hp} {b d : Nat} {τ : Tw} {Λ : Lw} {tp : Int → Int} {tl n : Int} {ob rf : Int → Int} {U : Pst} {im : Img} {dr : Option Tw}
/-- what is known of tape and refusals behind n calls -/
def GdT (n : Int) (tp : Int → Int) (tl : Int) (rf : Int → Int) : Prop := TpB tp tl ∧ ∀ k, 0 ≤ rf k ∧ rf k ≤ n
theorem GdT.rfb (g : GdT n tp tl rf) (hn : n ≤ 1000) : rfB rf := fun k => by have := g.2 k; omega
theorem GdT.up (g : GdT n tp tl rf) : GdT (n + 1) tp tl rf := ⟨g.1, fun k => by have := g.2 k; omega⟩
theorem GdT.no {c : Int} (g : GdT n tp tl rf) : GdT (n + 1) tp tl (upO rf (-c) (rf (-c) + 1)) := ⟨g.1, fun k => by
  by_cases e : k = -c
  · rw [e, upO_e]; have := g.2 (-c); omega
  · rw [upO_n e]; have := g.2 k; omega⟩
theorem GdT.t0 (g : GdT n tp tl rf) : GdT n tp 0 rf := ⟨⟨by omega, g.1.2⟩, g.2⟩
/-- a call's two contracts -/
def Pr (G : Gv) (b d : Nat) (n : Int) (Mx Mm : Mt) (as : List AV) (h : Hp) (τ : Tw) (Λ : Lw) (tp : Int → Int) (tl : Int) (ob rf : Int → Int) (U : Pst) (im : Img) (dr : Option Tw) (v : AV) : Prop := ∃ (mc ms : Nat) (τ' : Tw) (Λ' : Lw) (tp' : Int → Int) (tl' : Int) (ob' rf' : Int → Int) (U' : Pst) (im' : Img) (dr' : Option Tw), (mc ≤ 12 ∧ ms ≤ 1000) ∧ GdT (n + 1) tp' tl' rf' ∧ MA G Mx d mc ms (vr b :: as) h (fun r h' => r = some v ∧ CS G h' b τ' Λ' tp' tl' ob' rf' U' im' dr' ∧ Xo b h h') ∧ ∀ h1, MS h1 (b + 88) τ Λ tp tl ob rf U im dr → MA G Mm d 0 0 (vr (b + 88) :: as) h1 (fun r h' => r = some v ∧ MS h' (b + 88) τ' Λ' tp' tl' ob' rf' U' im' dr' ∧ Xm (b + 88) h1 h')
theorem pr_q {Mx Mm : Mt} {as : List AV} {v : Int} (C : CS G h b τ Λ tp tl ob rf U im dr) (g : GdT n tp tl rf) (x : MA G Mx d 0 0 (vr b :: as) h (RI v (Fq b h))) (m : ∀ h1, MS h1 (b + 88) τ Λ tp tl ob rf U im dr → MA G Mm d 0 0 (vr (b + 88) :: as) h1 (RI v (Gq (b + 88) h1))) : Pr G b d n Mx Mm as h τ Λ tp tl ob rf U im dr (vi v) := ⟨0, 0, τ, Λ, tp, tl, ob, rf, U, im, dr, by omega, g.up, x.mono (fun r h' z => ⟨z.1, C.q z.2, z.2.xo C.1.2⟩), fun h1 M => (m h1 M).mono (fun r h' z => ⟨z.1, M.q z.2, z.2.xm⟩)⟩
theorem pr_j {Mx Mm : Mt} {as : List AV} {v : Int} (C : CS G h b τ Λ tp tl ob rf U im dr) (g : GdT n tp tl rf) (x : MA G Mx d 0 0 (vr b :: as) h (RJ v (Fq b h))) (m : ∀ h1, MS h1 (b + 88) τ Λ tp tl ob rf U im dr → MA G Mm d 0 0 (vr (b + 88) :: as) h1 (RJ v (Gq (b + 88) h1))) : Pr G b d n Mx Mm as h τ Λ tp tl ob rf U im dr (vl v) := ⟨0, 0, τ, Λ, tp, tl, ob, rf, U, im, dr, by omega, g.up, x.mono (fun r h' z => ⟨z.1, C.q z.2, z.2.xo C.1.2⟩), fun h1 M => (m h1 M).mono (fun r h' z => ⟨z.1, M.q z.2, z.2.xm⟩)⟩
theorem pr_c {Mx Mm : Mt} {as : List AV} {v : Int} {mc ms : Nat} {τ' : Tw} {Λ' : Lw} {tp' : Int → Int} {tl' : Int} {ob' rf' : Int → Int} {U' : Pst} {im' : Img} {dr' : Option Tw} (hm : mc ≤ 12 ∧ ms ≤ 1000) (g : GdT (n + 1) tp' tl' rf') (x : MA G Mx d mc ms (vr b :: as) h (CP G b h v τ' Λ' tp' tl' ob' rf' U' im' dr')) (m : ∀ h1, MS h1 (b + 88) τ Λ tp tl ob rf U im dr → MA G Mm d 0 0 (vr (b + 88) :: as) h1 (MP (b + 88) h1 v τ' Λ' tp' tl' ob' rf' U' im' dr')) : Pr G b d n Mx Mm as h τ Λ tp tl ob rf U im dr (vi v) := ⟨mc, ms, τ', Λ', tp', tl', ob', rf', U', im', dr', hm, g, x, m⟩
def Prs (G : Gv) (b d : Nat) (n : Int) (Mx Mm : Mt) (as : List AV) (h : Hp) (τ : Tw) (Λ : Lw) (tp : Int → Int) (tl : Int) (ob rf : Int → Int) (U : Pst) (im : Img) (dr : Option Tw) : Prop := ∃ v : Int, Pr G b d n Mx Mm as h τ Λ tp tl ob rf U im dr (vi v)
theorem byt_bd {v s : Int} : 0 ≤ byt v s ∧ byt v s ≤ 255 := by
  unfold byt iand
  generalize Int32.ofInt (ishr v s) = x
  have e : (x &&& Int32.ofInt 255).toBitVec = x.toBitVec &&& 255#32 := rfl
  have l : (x.toBitVec &&& 255#32).toNat ≤ 255 := by
    rw [BitVec.toNat_and]
    exact Nat.and_le_right
  have t : (x &&& Int32.ofInt 255).toInt = ((x.toBitVec &&& 255#32).toNat : Int) := by
    show (x &&& Int32.ofInt 255).toBitVec.toInt = _
    rw [e, BitVec.toInt_eq_toNat_of_lt (by omega)]
  rw [t]
  omega
theorem upO_b {f : Int → Int} {j x : Int} (h : ∀ k, 0 ≤ k → k < 400 → 0 ≤ f k ∧ f k ≤ 255) (hx : 0 ≤ x ∧ x ≤ 255) : ∀ k, 0 ≤ k → k < 400 → 0 ≤ upO f j x k ∧ upO f j x k ≤ 255 := fun k k0 k1 => by
  by_cases e : k = j
  · rw [e, upO_e]; exact hx
  · rw [upO_n e]; exact h k k0 k1
theorem fd1_bd {t v : Int} {f : Int → Int} (h : ∀ k, 0 ≤ k → k < 400 → 0 ≤ f k ∧ f k ≤ 255) : ∀ k, 0 ≤ k → k < 400 → 0 ≤ fd1 f t v k ∧ fd1 f t v k ≤ 255 := upO_b (upO_b (upO_b (upO_b h byt_bd) byt_bd) byt_bd) byt_bd
theorem GdT.fed {v1 v2 v3 v4 v5 : Int} (g : GdT n tp tl rf) (c : tl + 20 ≤ 400) : GdT (n + 1) (fd5 tp tl v1 v2 v3 v4 v5) (tl + 20) rf := ⟨⟨by have := g.1.1; omega, fd1_bd (fd1_bd (fd1_bd (fd1_bd (fd1_bd g.1.2))))⟩, g.up.2⟩
theorem pr_at {a1 a2 : Int} (C : CS G h b τ Λ tp tl ob rf U im dr) (g : GdT n tp tl rf) (hn : n ≤ 1000) (hd : 60 ≤ d) : Prs G b d n M_X11_at M_X12_at [vi a1, vi a2] h τ Λ tp tl ob rf U im dr := by
  have hB : gB G ≤ b + 88 := by have := C.1.1.1; omega
  have W := C.2.2.1.2
  have hr := g.rfb hn
  exact ⟨_, pr_q C g (x_at (by omega) C) (fun h1 M => m_at (by omega) M W)⟩
theorem pr_of {a1 a2 : Int} (C : CS G h b τ Λ tp tl ob rf U im dr) (g : GdT n tp tl rf) (hn : n ≤ 1000) (hd : 60 ≤ d) : Prs G b d n M_X11_of M_X12_of [vi a1, vi a2] h τ Λ tp tl ob rf U im dr := by
  have hB : gB G ≤ b + 88 := by have := C.1.1.1; omega
  have W := C.2.2.1.2
  have hr := g.rfb hn
  exact ⟨_, pr_q C g (x_of (by omega) C) (fun h1 M => m_of (by omega) hB M W)⟩
theorem pr_owed {a1 a2 : Int} (C : CS G h b τ Λ tp tl ob rf U im dr) (g : GdT n tp tl rf) (hn : n ≤ 1000) (hd : 60 ≤ d) : Prs G b d n M_X11_owed M_X12_owed [vi a1, vi a2] h τ Λ tp tl ob rf U im dr := by
  have hB : gB G ≤ b + 88 := by have := C.1.1.1; omega
  have W := C.2.2.1.2
  have hr := g.rfb hn
  exact ⟨odS τ a1 a2, pr_q C g (x_owed (by omega) C) (fun h1 M => m_owed (by omega) M W)⟩
theorem pr_net {a1 : Int} (C : CS G h b τ Λ tp tl ob rf U im dr) (g : GdT n tp tl rf) (hn : n ≤ 1000) (hd : 60 ≤ d) : Prs G b d n M_X11_net M_X12_net [vi a1] h τ Λ tp tl ob rf U im dr := by
  have hB : gB G ≤ b + 88 := by have := C.1.1.1; omega
  have W := C.2.2.1.2
  have hr := g.rfb hn
  exact ⟨_, pr_q C g (x_net (by omega) C) (fun h1 M => m_net (by omega) M W)⟩
theorem pr_asks {a1 a2 a3 : Int} (C : CS G h b τ Λ tp tl ob rf U im dr) (g : GdT n tp tl rf) (hn : n ≤ 1000) (hd : 60 ≤ d) : Prs G b d n M_X11_asks M_X12_asks [vi a1, vi a2, vi a3] h τ Λ tp tl ob rf U im dr := by
  have hB : gB G ≤ b + 88 := by have := C.1.1.1; omega
  have W := C.2.2.1.2
  have hr := g.rfb hn
  exact ⟨asS τ (alOf τ Λ) a1 a2 a3, pr_q C g (x_asks (by omega) C) (fun h1 M => m_asks (by omega) hB M W)⟩
theorem pr_hiccups (C : CS G h b τ Λ tp tl ob rf U im dr) (g : GdT n tp tl rf) (hn : n ≤ 1000) (hd : 60 ≤ d) : Prs G b d n M_X11_hiccups M_X12_hiccups [] h τ Λ tp tl ob rf U im dr := by
  have hB : gB G ≤ b + 88 := by have := C.1.1.1; omega
  have W := C.2.2.1.2
  have hr := g.rfb hn
  exact ⟨_, pr_q C g (x_ob (k := 0) (by omega) C).1 (fun h1 M => (m_ob M).1)⟩
theorem pr_fault (C : CS G h b τ Λ tp tl ob rf U im dr) (g : GdT n tp tl rf) (hn : n ≤ 1000) (hd : 60 ≤ d) : Prs G b d n M_X11_fault M_X12_fault [] h τ Λ tp tl ob rf U im dr := by
  have hB : gB G ≤ b + 88 := by have := C.1.1.1; omega
  have W := C.2.2.1.2
  have hr := g.rfb hn
  exact ⟨_, pr_q C g (x_ob (k := 0) (by omega) C).2.1 (fun h1 M => (m_ob M).2.1)⟩
theorem pr_stopped (C : CS G h b τ Λ tp tl ob rf U im dr) (g : GdT n tp tl rf) (hn : n ≤ 1000) (hd : 60 ≤ d) : Prs G b d n M_X11_stopped M_X12_stopped [] h τ Λ tp tl ob rf U im dr := by
  have hB : gB G ≤ b + 88 := by have := C.1.1.1; omega
  have W := C.2.2.1.2
  have hr := g.rfb hn
  exact ⟨_, pr_q C g (x_ob (k := 0) (by omega) C).2.2.1 (fun h1 M => (m_ob M).2.2.1)⟩
theorem pr_status (C : CS G h b τ Λ tp tl ob rf U im dr) (g : GdT n tp tl rf) (hn : n ≤ 1000) (hd : 60 ≤ d) : Prs G b d n M_X11_status M_X12_status [] h τ Λ tp tl ob rf U im dr := by
  have hB : gB G ≤ b + 88 := by have := C.1.1.1; omega
  have W := C.2.2.1.2
  have hr := g.rfb hn
  exact ⟨_, pr_q C g (x_ob (k := 0) (by omega) C).2.2.2 (fun h1 M => (m_ob M).2.2.2)⟩
theorem pr_ring {a1 : Int} (C : CS G h b τ Λ tp tl ob rf U im dr) (g : GdT n tp tl rf) (hn : n ≤ 1000) (hd : 60 ≤ d) : Prs G b d n M_X11_ring M_X12_ring [vi a1] h τ Λ tp tl ob rf U im dr := by
  have hB : gB G ≤ b + 88 := by have := C.1.1.1; omega
  have W := C.2.2.1.2
  have hr := g.rfb hn
  exact ⟨_, pr_q C g (x_ring (by omega) C) (fun h1 M => m_ring (by omega) hB M W)⟩
theorem pr_gain {a1 a2 : Int} (C : CS G h b τ Λ tp tl ob rf U im dr) (g : GdT n tp tl rf) (hn : n ≤ 1000) (hd : 60 ≤ d) : Prs G b d n M_X11_gain M_X12_gain [vi a1, vi a2] h τ Λ tp tl ob rf U im dr := by
  have hB : gB G ≤ b + 88 := by have := C.1.1.1; omega
  have W := C.2.2.1.2
  have hr := g.rfb hn
  exact ⟨gnS τ (alOf τ Λ) a1 a2, pr_q C g (x_gain (by omega) C) (fun h1 M => m_gain (by omega) hB M W)⟩
theorem pr_stand {a1 a2 : Int} (C : CS G h b τ Λ tp tl ob rf U im dr) (g : GdT n tp tl rf) (hn : n ≤ 1000) (hd : 60 ≤ d) : Prs G b d n M_X11_stand M_X12_stand [vi a1, vi a2] h τ Λ tp tl ob rf U im dr := by
  have hB : gB G ≤ b + 88 := by have := C.1.1.1; omega
  have W := C.2.2.1.2
  have hr := g.rfb hn
  exact ⟨sdS τ (alOf τ Λ) a1 a2, pr_q C g (x_stand (by omega) C) (fun h1 M => m_stand (by omega) hB M W)⟩
theorem pr_rests {a1 : Int} (C : CS G h b τ Λ tp tl ob rf U im dr) (g : GdT n tp tl rf) (hn : n ≤ 1000) (hd : 60 ≤ d) : Prs G b d n M_X11_rests M_X12_rests [vi a1] h τ Λ tp tl ob rf U im dr := by
  have hB : gB G ≤ b + 88 := by have := C.1.1.1; omega
  have W := C.2.2.1.2
  have hr := g.rfb hn
  exact ⟨_, pr_q C g (x_rests (by omega) C) (fun h1 M => m_rests (by omega) hB M W)⟩
theorem pr_round {a1 a2 : Int} (C : CS G h b τ Λ tp tl ob rf U im dr) (g : GdT n tp tl rf) (hn : n ≤ 1000) (hd : 60 ≤ d) : Prs G b d n M_X11_round M_X12_round [vi a1, vi a2] h τ Λ tp tl ob rf U im dr := by
  have hB : gB G ≤ b + 88 := by have := C.1.1.1; omega
  have W := C.2.2.1.2
  have hr := g.rfb hn
  exact ⟨_, pr_q C g (x_round (by omega) C) (fun h1 M => m_round (by omega) hB M W)⟩
theorem pr_masks {a1 : Int} (C : CS G h b τ Λ tp tl ob rf U im dr) (g : GdT n tp tl rf) (hn : n ≤ 1000) (hd : 60 ≤ d) : Prs G b d n M_X11_masks M_X12_masks [vi a1] h τ Λ tp tl ob rf U im dr := by
  have hB : gB G ≤ b + 88 := by have := C.1.1.1; omega
  have W := C.2.2.1.2
  have hr := g.rfb hn
  exact ⟨_, pr_q C g (x_masks (by omega) C) (fun h1 M => m_masks (by omega) hB M W)⟩
theorem pr_can {a1 : Int} (C : CS G h b τ Λ tp tl ob rf U im dr) (g : GdT n tp tl rf) (hn : n ≤ 1000) (hd : 60 ≤ d) : Prs G b d n M_X11_can M_X12_can [vi a1] h τ Λ tp tl ob rf U im dr := by
  have hB : gB G ≤ b + 88 := by have := C.1.1.1; omega
  have W := C.2.2.1.2
  have hr := g.rfb hn
  exact ⟨_, pr_q C g (x_can (by omega) C) (fun h1 M => m_can (by omega) hB M W)⟩
theorem pr_listen {a1 a2 : Int} (C : CS G h b τ Λ tp tl ob rf U im dr) (g : GdT n tp tl rf) (hn : n ≤ 1000) (hd : 60 ≤ d) : Prs G b d n M_X11_listen M_X12_listen [vi a1, vi a2] h τ Λ tp tl ob rf U im dr := by
  have hB : gB G ≤ b + 88 := by have := C.1.1.1; omega
  have W := C.2.2.1.2
  have hr := g.rfb hn
  exact ⟨_, pr_q C g (x_listen (by omega) C) (fun h1 M => m_listen (by omega) hB M W)⟩
theorem pr_compare {a1 : Int} (C : CS G h b τ Λ tp tl ob rf U im dr) (g : GdT n tp tl rf) (hn : n ≤ 1000) (hd : 60 ≤ d) : Prs G b d n M_X11_compare M_X12_compare [vi a1] h τ Λ tp tl ob rf U im dr := by
  have hB : gB G ≤ b + 88 := by have := C.1.1.1; omega
  have W := C.2.2.1.2
  have hr := g.rfb hn
  exact ⟨_, pr_q C g (x_compare (by omega) C) (fun h1 M => m_compare (by omega) hB M W)⟩
theorem pr_often {a1 a2 a3 : Int} (C : CS G h b τ Λ tp tl ob rf U im dr) (g : GdT n tp tl rf) (hn : n ≤ 1000) (hd : 60 ≤ d) : ∃ v : Int, Pr G b d n M_X11_often M_X12_often [vi a1, vi a2, vi a3] h τ Λ tp tl ob rf U im dr (vl v) := by
  have hB : gB G ≤ b + 88 := by have := C.1.1.1; omega
  have W := C.2.2.1.2
  exact ⟨_, pr_j C g (x_often (by omega) C) (fun h1 M => m_often (by omega) hB M W)⟩
theorem pr_drawn {a1 a2 : Int} (C : CS G h b τ Λ tp tl ob rf U im dr) (g : GdT n tp tl rf) (hn : n ≤ 1000) (hd : 60 ≤ d) : Prs G b d n M_X11_drawn M_X12_drawn [vi a1, vi a2] h τ Λ tp tl ob rf U im dr := by
  have hB : gB G ≤ b + 88 := by have := C.1.1.1; omega
  have W := C.2.2.1.2
  have hr := g.rfb hn
  exact ⟨_, pr_q C g (x_drawn (by omega) C) (fun h1 M => m_drawn (by omega) M (fun υ e => (C.2.2.2.2.2.2.2.2.2 υ e).2))⟩
theorem pr_count {a1 : Int} (C : CS G h b τ Λ tp tl ob rf U im dr) (g : GdT n tp tl rf) (hn : n ≤ 1000) (hd : 60 ≤ d) : Prs G b d n M_X11_count M_X12_count [vi a1] h τ Λ tp tl ob rf U im dr := by
  have hB : gB G ≤ b + 88 := by have := C.1.1.1; omega
  have W := C.2.2.1.2
  have hr := g.rfb hn
  exact ⟨_, pr_q C g (x_count (by omega) C) (fun h1 M => m_count (by omega) M W)⟩
theorem pr_dust {a1 a2 : Int} (C : CS G h b τ Λ tp tl ob rf U im dr) (g : GdT n tp tl rf) (hn : n ≤ 1000) (hd : 60 ≤ d) : Prs G b d n M_X11_dust M_X12_dust [vi a1, vi a2] h τ Λ tp tl ob rf U im dr := by
  have hB : gB G ≤ b + 88 := by have := C.1.1.1; omega
  have W := C.2.2.1.2
  have hr := g.rfb hn
  by_cases c0 : (0 ≤ a1 ∧ a1 < 25) ∧ 0 ≤ a2 ∧ a2 ≤ 9
  · exact ⟨_, pr_c (by omega) g.up (x_dust (by omega) C hr c0) (fun h1 M => m_dust (by omega) hB M W c0)⟩
  exact ⟨_, pr_c (by omega) g.no (x_dust' (by omega) C hr c0) (fun h1 M => m_dust1 (by omega) hB M hr c0)⟩
theorem pr_person {a1 a2 a3 a4 : Int} (C : CS G h b τ Λ tp tl ob rf U im dr) (g : GdT n tp tl rf) (hn : n ≤ 1000) (hd : 60 ≤ d) : Prs G b d n M_X11_person M_X12_person [vi a1, vi a2, vi a3, vi a4] h τ Λ tp tl ob rf U im dr := by
  have hB : gB G ≤ b + 88 := by have := C.1.1.1; omega
  have W := C.2.2.1.2
  have hr := g.rfb hn
  by_cases c0 : ¬ cbP a1 a2 a3 a4
  · exact ⟨_, pr_c (by omega) g.no (x_person1 (by omega) C hr c0) (fun h1 M => m_person1 (by omega) hB M hr c0)⟩
  by_cases c1 : τ 0 11 < 8
  · exact ⟨_, pr_c (by omega) g.up (x_person (by omega) C (Classical.not_not.1 c0) c1) (fun h1 M => m_person (by omega) hB M W (Classical.not_not.1 c0) c1)⟩
  exact ⟨_, pr_c (by omega) g.no (x_person5 (by omega) C hr (Classical.not_not.1 c0) c1) (fun h1 M => m_person5 (by omega) hB M W hr (Classical.not_not.1 c0) c1)⟩
theorem pr_mask {a1 a2 : Int} (C : CS G h b τ Λ tp tl ob rf U im dr) (g : GdT n tp tl rf) (hn : n ≤ 1000) (hd : 60 ≤ d) : Prs G b d n M_X11_mask M_X12_mask [vi a1, vi a2] h τ Λ tp tl ob rf U im dr := by
  have hB : gB G ≤ b + 88 := by have := C.1.1.1; omega
  have W := C.2.2.1.2
  have hr := g.rfb hn
  by_cases c0 : ¬ (a2 = 0 ∨ a2 = 1)
  · exact ⟨_, pr_c (by omega) g.no (x_mask1 (by omega) C hr c0) (fun h1 M => m_mask1 (by omega) hB M hr c0)⟩
  by_cases c1 : 0 ≤ a1 ∧ a1 < τ 0 11
  · exact ⟨_, pr_c (by omega) g.up (x_mask (by omega) C (Classical.not_not.1 c0) c1) (fun h1 M => m_mask (by omega) hB M W (Classical.not_not.1 c0) c1)⟩
  exact ⟨_, pr_c (by omega) g.no (x_mask2 (by omega) C hr (Classical.not_not.1 c0) c1) (fun h1 M => m_mask2 (by omega) hB M W hr (Classical.not_not.1 c0) c1)⟩
theorem pr_lend {a1 a2 a3 : Int} (C : CS G h b τ Λ tp tl ob rf U im dr) (g : GdT n tp tl rf) (hn : n ≤ 1000) (hd : 60 ≤ d) : Prs G b d n M_X11_lend M_X12_lend [vi a1, vi a2, vi a3] h τ Λ tp tl ob rf U im dr := by
  have hB : gB G ≤ b + 88 := by have := C.1.1.1; omega
  have W := C.2.2.1.2
  have hr := g.rfb hn
  by_cases c0 : ¬ (a1 ≠ a2 ∧ 0 ≤ a3 ∧ a3 ≤ 99)
  · exact ⟨_, pr_c (by omega) g.no (x_lend1 (by omega) C hr c0) (fun h1 M => m_lend1 (by omega) hB M hr c0)⟩
  by_cases c1 : (0 ≤ a1 ∧ a1 < τ 0 11) ∧ 0 ≤ a2 ∧ a2 < τ 0 11
  · exact ⟨_, pr_c (by omega) g.up (x_lend (by omega) C (Classical.not_not.1 c0) c1) (fun h1 M => m_lend (by omega) hB M W (Classical.not_not.1 c0) c1)⟩
  exact ⟨_, pr_c (by omega) g.no (x_lend2 (by omega) C hr (Classical.not_not.1 c0) c1) (fun h1 M => m_lend2 (by omega) hB M W hr (Classical.not_not.1 c0) c1)⟩
theorem pr_terms {a1 a2 : Int} (C : CS G h b τ Λ tp tl ob rf U im dr) (g : GdT n tp tl rf) (hn : n ≤ 1000) (hd : 60 ≤ d) : Prs G b d n M_X11_terms M_X12_terms [vi a1, vi a2] h τ Λ tp tl ob rf U im dr := by
  have hB : gB G ≤ b + 88 := by have := C.1.1.1; omega
  have W := C.2.2.1.2
  have hr := g.rfb hn
  by_cases c0 : (a1 = 0 ∧ 0 ≤ a2 ∧ a2 ≤ 9999) ∨ (a1 = 1 ∧ 0 ≤ a2 ∧ a2 ≤ 9)
  · exact ⟨_, pr_c (by omega) g.up (x_terms (by omega) C c0) (fun h1 M => m_terms (by omega) hB M W c0)⟩
  exact ⟨_, pr_c (by omega) g.no (x_terms1 (by omega) C hr c0) (fun h1 M => m_terms1 (by omega) hB M hr c0)⟩
theorem pr_feed {a1 a2 a3 a4 a5 : Int} (C : CS G h b τ Λ tp tl ob rf U im dr) (g : GdT n tp tl rf) (hn : n ≤ 1000) (hd : 60 ≤ d) : Prs G b d n M_X11_feed M_X12_feed [vi a1, vi a2, vi a3, vi a4, vi a5] h τ Λ tp tl ob rf U im dr := by
  have hB : gB G ≤ b + 88 := by have := C.1.1.1; omega
  have W := C.2.2.1.2
  have hr := g.rfb hn
  by_cases c0 : tl + 20 ≤ 400
  · exact ⟨_, pr_c (by omega) (g.fed c0) (x_feed (by omega) C c0) (fun h1 M => m_feed (by omega) hB M g.1.1.1 c0)⟩
  · exact ⟨_, pr_q C g (x_feed1 (by omega) C c0) (fun h1 M => m_feed1 (by omega) M g.1.1 c0)⟩
theorem pr_end {a1 : Int} (C : CS G h b τ Λ tp tl ob rf U im dr) (g : GdT n tp tl rf) (hn : n ≤ 1000) (hd : 60 ≤ d) : Prs G b d n M_X11_end M_X12_end [vi a1] h τ Λ tp tl ob rf U im dr := by
  have hB : gB G ≤ b + 88 := by have := C.1.1.1; omega
  have W := C.2.2.1.2
  have hr := g.rfb hn
  by_cases c0 : 0 ≤ a1 ∧ a1 ≤ tl
  · exact ⟨_, pr_c (by omega) ⟨⟨by have := g.1.1; omega, g.1.2⟩, g.up.2⟩ (x_end C c0) (fun h1 M => m_endT M c0)⟩
  · exact ⟨_, pr_q C g (x_end1 C c0) (fun h1 M => m_endT1 M c0)⟩
theorem pr_row (C : CS G h b τ Λ tp tl ob rf U im dr) (g : GdT n tp tl rf) (hn : n ≤ 1000) (hd : 60 ≤ d) : Prs G b d n M_X11_row M_X12_row [] h τ Λ tp tl ob rf U im dr := by
  have hB : gB G ≤ b + 88 := by have := C.1.1.1; omega
  have W := C.2.2.1.2
  have hr := g.rfb hn
  have t0 := g.1.1
  by_cases c0 : tl = 0
  · exact ⟨_, pr_c (by omega) g.no (x_row6 (by omega) C hr c0) (fun h1 M => m_row6 (by omega) hB M hr c0)⟩
  · exact ⟨_, pr_c (by omega) g.up.t0 (x_row (by omega) C (by omega)) (fun h1 M => m_row (by omega) hB M W (by omega))⟩
theorem pr_law (C : CS G h b τ Λ tp tl ob rf U im dr) (g : GdT n tp tl rf) (hn : n ≤ 1000) (hd : 60 ≤ d) : Prs G b d n M_X11_law M_X12_law [] h τ Λ tp tl ob rf U im dr := by
  have hB : gB G ≤ b + 88 := by have := C.1.1.1; omega
  have W := C.2.2.1.2
  have hr := g.rfb hn
  by_cases c0 : τ 0 13 = 6
  · exact ⟨_, pr_c (by omega) g.t0.no (x_law5 (by omega) C hr c0) (fun h1 M => m_law5 (by omega) hB M hr c0)⟩
  cases e : texR tp tl false with
  | error z => exact ⟨_, pr_c (by omega) g.t0.no (x_law6 (by omega) C g.1 hr c0 e) (fun h1 M => m_law6 (by omega) hB M g.1 hr c0 e)⟩
  | ok cl => exact ⟨_, pr_c (by omega) g.up.t0 (x_law (by omega) C g.1 (tex_gd g.1 e).1 c0 e) (fun h1 M => m_law (by omega) hB M g.1 W c0 e)⟩
theorem pr_orders (C : CS G h b τ Λ tp tl ob rf U im dr) (g : GdT n tp tl rf) (hn : n ≤ 1000) (hd : 60 ≤ d) : Prs G b d n M_X11_orders M_X12_orders [] h τ Λ tp tl ob rf U im dr := by
  have hB : gB G ≤ b + 88 := by have := C.1.1.1; omega
  have W := C.2.2.1.2
  have hr := g.rfb hn
  cases e : texR tp tl true with
  | error z => exact ⟨_, pr_c (by omega) g.t0.no (x_orders6 (by omega) C g.1 hr e) (fun h1 M => m_orders6 (by omega) hB M g.1 hr e)⟩
  | ok cl =>
    have x := x_orders (G := G) (d := d) (by omega) C g.1 hr e
    have m := fun h1 M => m_orders (G := G) (h := h1) (m := b + 88) (d := d) (τ := τ) (Λ := Λ) (tp := tp) (tl := tl) (ob := ob) (rf := rf) (U := U) (im := im) (dr := dr) (by omega) hB M g.1 hr W e
    cases r : allO Λ cl 0 (τ, U, 0, -1) with
    | error c =>
      rw [r] at x m
      exact ⟨_, pr_c (by omega) g.t0.no x m⟩
    | ok S =>
      rw [r] at x m
      have eo : upO (upO (upO (upO ob 15 (-1)) 14 (-1)) 15 (-1)) 13 0 = upO (upO (upO ob 15 (-1)) 14 (-1)) 13 0 := by
        congr 1
        funext j
        by_cases e : j = 15
        · rw [e, upO_e, upO_n (by omega), upO_e]
        · rw [upO_n e]
      have x' : MA G M_X11_orders d 0 0 [vr b] h (CP G b h S.2.2.1 S.1 Λ tp 0 (upO (upO (upO (upO ob 15 (-1)) 14 (-1)) 15 (-1)) 13 0) rf S.2.1 im dr) := x
      rw [eo] at x'
      exact ⟨_, pr_c (by omega) g.up.t0 x' m⟩
theorem pr_force {a1 : Int} (C : CS G h b τ Λ tp tl ob rf U im dr) (g : GdT n tp tl rf) (hn : n ≤ 1000) (hd : 60 ≤ d) : Prs G b d n M_X11_force M_X12_force [vi a1] h τ Λ tp tl ob rf U im dr := by
  have hB : gB G ≤ b + 88 := by have := C.1.1.1; omega
  have W := C.2.2.1.2
  have hr := g.rfb hn
  by_cases c0 : -1 ≤ a1 ∧ a1 < τ 0 13
  · exact ⟨_, pr_c (by omega) g.up (x_force (by omega) C c0) (fun h1 M => m_force (by omega) hB M W c0)⟩
  exact ⟨_, pr_c (by omega) g.no (x_force1 (by omega) C hr c0) (fun h1 M => m_force1 (by omega) hB M W hr c0)⟩
theorem pr_step {a1 a2 : Int} (C : CS G h b τ Λ tp tl ob rf U im dr) (g : GdT n tp tl rf) (hn : n ≤ 1000) (hd : 60 ≤ d) : Prs G b d n M_X11_step M_X12_step [vi a1, vi a2] h τ Λ tp tl ob rf U im dr := by
  have hB : gB G ≤ b + 88 := by have := C.1.1.1; omega
  have W := C.2.2.1.2
  have hr := g.rfb hn
  by_cases c0 : ¬ (0 ≤ a2 ∧ a2 < 25)
  · exact ⟨_, pr_c (by omega) g.no (x_step1 (by omega) C hr c0) (fun h1 M => m_step1 (by omega) hB M W hr c0)⟩
  by_cases c1 : ¬ (0 ≤ a1 ∧ a1 < τ 0 11)
  · exact ⟨_, pr_c (by omega) g.no (x_step2 (by omega) C hr (Classical.not_not.1 c0) c1) (fun h1 M => m_step2 (by omega) hB M W hr (Classical.not_not.1 c0) c1)⟩
  by_cases c2 : dist (τ 2 a1) a2 = 1
  · exact ⟨_, pr_c (by omega) g.up (x_step (by omega) C (Classical.not_not.1 c0) (Classical.not_not.1 c1) c2) (fun h1 M => m_step (by omega) hB M W (Classical.not_not.1 c0) (Classical.not_not.1 c1) c2)⟩
  exact ⟨_, pr_c (by omega) g.no (x_step3 (by omega) C hr (Classical.not_not.1 c0) (Classical.not_not.1 c1) c2) (fun h1 M => m_step3 (by omega) hB M W hr (Classical.not_not.1 c0) (Classical.not_not.1 c1) c2)⟩
theorem pr_sneeze {a1 : Int} (C : CS G h b τ Λ tp tl ob rf U im dr) (g : GdT n tp tl rf) (hn : n ≤ 1000) (hd : 60 ≤ d) : Prs G b d n M_X11_sneeze M_X12_sneeze [vi a1] h τ Λ tp tl ob rf U im dr := by
  have hB : gB G ≤ b + 88 := by have := C.1.1.1; omega
  have W := C.2.2.1.2
  have hr := g.rfb hn
  by_cases c0 : 0 ≤ a1 ∧ a1 < τ 0 11
  · exact ⟨_, pr_c (by omega) g.up (x_sneeze (by omega) C c0) (fun h1 M => m_sneeze (by omega) hB M W c0)⟩
  exact ⟨_, pr_c (by omega) g.no (x_sneeze2 (by omega) C hr c0) (fun h1 M => m_sneeze2 (by omega) hB M W hr c0)⟩
theorem pr_forgive {a1 a2 : Int} (C : CS G h b τ Λ tp tl ob rf U im dr) (g : GdT n tp tl rf) (hn : n ≤ 1000) (hd : 60 ≤ d) : Prs G b d n M_X11_forgive M_X12_forgive [vi a1, vi a2] h τ Λ tp tl ob rf U im dr := by
  have hB : gB G ≤ b + 88 := by have := C.1.1.1; omega
  have W := C.2.2.1.2
  have hr := g.rfb hn
  by_cases c0 : ¬ ((0 ≤ a1 ∧ a1 < τ 0 11) ∧ 0 ≤ a2 ∧ a2 < τ 0 11)
  · exact ⟨_, pr_c (by omega) g.no (x_forgive2 (by omega) C hr c0) (fun h1 M => m_forgive2 (by omega) hB M W hr c0)⟩
  by_cases c1 : τ 7 (a1 * 8 + a2) = 0
  · exact ⟨_, pr_c (by omega) g.no (x_forgive3 (by omega) C hr (Classical.not_not.1 c0).1 (Classical.not_not.1 c0).2 c1) (fun h1 M => m_forgive3 (by omega) hB M W hr (Classical.not_not.1 c0).1 (Classical.not_not.1 c0).2 c1)⟩
  exact ⟨_, pr_c (by omega) g.up (x_forgive (by omega) C (Classical.not_not.1 c0).1 (Classical.not_not.1 c0).2 c1) (fun h1 M => m_forgive (by omega) hB M W (Classical.not_not.1 c0).1 (Classical.not_not.1 c0).2 c1)⟩
theorem pr_clear (C : CS G h b τ Λ tp tl ob rf U im dr) (g : GdT n tp tl rf) (hn : n ≤ 1000) (hd : 60 ≤ d) : Prs G b d n M_X11_clear M_X12_clear [] h τ Λ tp tl ob rf U im dr := by
  have hB : gB G ≤ b + 88 := by have := C.1.1.1; omega
  have W := C.2.2.1.2
  have hr := g.rfb hn
  cases e : rgS τ with
  | none => exact ⟨_, pr_c (by omega) g.no (x_clear3 (by omega) C hr e) (fun h1 M => m_clear3 (by omega) hB M W hr e)⟩
  | some gl => exact ⟨_, pr_c (by omega) g.up (x_clear (by omega) C e) (fun h1 M => m_clear (by omega) hB M W e)⟩
theorem pr_pass (C : CS G h b τ Λ tp tl ob rf U im dr) (g : GdT n tp tl rf) (hn : n ≤ 1000) (hd : 60 ≤ d) : Prs G b d n M_X11_pass M_X12_pass [] h τ Λ tp tl ob rf U im dr := by
  have hB : gB G ≤ b + 88 := by have := C.1.1.1; omega
  have W := C.2.2.1.2
  have hr := g.rfb hn
  by_cases c0 : τ 8 0 < 9999
  · exact ⟨_, pr_c (by omega) g.up (x_pass (by omega) C c0) (fun h1 M => m_passP (by omega) hB M W c0)⟩
  exact ⟨_, pr_c (by omega) g.no (x_pass1 (by omega) C hr c0) (fun h1 M => m_passP1 (by omega) hB M W hr c0)⟩
theorem pr_undo (C : CS G h b τ Λ tp tl ob rf U im dr) (g : GdT n tp tl rf) (hn : n ≤ 1000) (hd : 60 ≤ d) : Prs G b d n M_X11_undo M_X12_undo [] h τ Λ tp tl ob rf U im dr := by
  have hB : gB G ≤ b + 88 := by have := C.1.1.1; omega
  have W := C.2.2.1.2
  have hr := g.rfb hn
  have P := C.2.2.2.2.2.2.1
  by_cases c0 : U.1 = 0
  · exact ⟨_, pr_c (by omega) g.no (x_undo3 (by omega) C hr c0) (fun h1 M => m_undo3 (by omega) hB M hr c0)⟩
  · have k := (P.2.2 (U.1 - 1) (by omega)).1.2.1.1
    exact ⟨_, pr_c (by omega) g.up (x_undo (by omega) C (by omega)) (fun h1 M => m_undo (by omega) hB M W (by omega) k)⟩
theorem pr_seen {a1 a2 : Int} (C : CS G h b τ Λ tp tl ob rf U im dr) (g : GdT n tp tl rf) (hn : n ≤ 1000) (hd : 60 ≤ d) : Prs G b d n M_X11_seen M_X12_seen [vi a1, vi a2] h τ Λ tp tl ob rf U im dr := by
  have hB : gB G ≤ b + 88 := by have := C.1.1.1; omega
  have W := C.2.2.1.2
  have hr := g.rfb hn
  by_cases c0 : a1 = a2
  · exact ⟨_, pr_c (by omega) g.no (x_seen1 (by omega) C hr c0) (fun h1 M => m_seen1 (by omega) hB M hr c0)⟩
  by_cases c1 : ¬ ((0 ≤ a1 ∧ a1 < τ 0 11) ∧ (a2 = -1 ∨ (0 ≤ a2 ∧ a2 < τ 0 11)))
  · exact ⟨_, pr_c (by omega) g.no (x_seen2 (by omega) C hr c0 c1) (fun h1 M => m_seen2 (by omega) hB M W hr c0 c1)⟩
  by_cases c2 : τ 0 12 < 8
  · exact ⟨_, pr_c (by omega) g.up (x_seen (by omega) C c0 (Classical.not_not.1 c1).1 (Classical.not_not.1 c1).2 c2) (fun h1 M => m_seen (by omega) hB M W c0 (Classical.not_not.1 c1).1 (Classical.not_not.1 c1).2 c2)⟩
  exact ⟨_, pr_c (by omega) g.no (x_seen5 (by omega) C hr c0 (Classical.not_not.1 c1).1 (Classical.not_not.1 c1).2 c2) (fun h1 M => m_seen5 (by omega) hB M W hr c0 (Classical.not_not.1 c1).1 (Classical.not_not.1 c1).2 c2)⟩
theorem pr_forget (C : CS G h b τ Λ tp tl ob rf U im dr) (g : GdT n tp tl rf) (hn : n ≤ 1000) (hd : 60 ≤ d) : Prs G b d n M_X11_forget M_X12_forget [] h τ Λ tp tl ob rf U im dr := by
  have hB : gB G ≤ b + 88 := by have := C.1.1.1; omega
  have W := C.2.2.1.2
  have hr := g.rfb hn
  exact ⟨_, pr_c (by omega) g.up (x_forget C) (fun h1 M => m_forget hB M W)⟩
theorem pr_hours {a1 a2 : Int} (C : CS G h b τ Λ tp tl ob rf U im dr) (g : GdT n tp tl rf) (hn : n ≤ 1000) (hd : 60 ≤ d) : Prs G b d n M_X11_hours M_X12_hours [vi a1, vi a2] h τ Λ tp tl ob rf U im dr := by
  have hB : gB G ≤ b + 88 := by have := C.1.1.1; omega
  have W := C.2.2.1.2
  have hr := g.rfb hn
  by_cases c0 : (0 ≤ a1 ∧ a1 ≤ 1000000) ∧ 1 ≤ a2 ∧ a2 ≤ 60
  · exact ⟨_, pr_c (by omega) g.up (x_hours (by omega) C c0.1 c0.2) (fun h1 M => m_hours (by omega) hB M W c0.1 c0.2)⟩
  exact ⟨_, pr_c (by omega) g.no (x_hours1 (by omega) C hr c0) (fun h1 M => m_hours1 (by omega) hB M hr c0)⟩
theorem pr_image {a1 : Int} (C : CS G h b τ Λ tp tl ob rf U im dr) (g : GdT n tp tl rf) (hn : n ≤ 1000) (hd : 60 ≤ d) : Prs G b d n M_X11_image M_X12_image [vi a1] h τ Λ tp tl ob rf U im dr := by
  have hB : gB G ≤ b + 88 := by have := C.1.1.1; omega
  have W := C.2.2.1.2
  have hr := g.rfb hn
  by_cases c0 : a1 = 0 ∨ a1 = 1
  · exact ⟨_, pr_c (by omega) g.up (x_image (by omega) C c0) (fun h1 M => m_image (by omega) hB M W c0)⟩
  exact ⟨_, pr_c (by omega) g.no (x_image1 (by omega) C hr c0) (fun h1 M => m_image1 (by omega) hB M hr c0)⟩
theorem pr_back {a1 : Int} (C : CS G h b τ Λ tp tl ob rf U im dr) (g : GdT n tp tl rf) (hn : n ≤ 1000) (hd : 60 ≤ d) : Prs G b d n M_X11_back M_X12_back [vi a1] h τ Λ tp tl ob rf U im dr := by
  have hB : gB G ≤ b + 88 := by have := C.1.1.1; omega
  have W := C.2.2.1.2
  have hr := g.rfb hn
  by_cases c0 : a1 = 0 ∨ a1 = 1
  rotate_left
  · exact ⟨_, pr_c (by omega) g.no (x_back1 (by omega) C hr c0) (fun h1 M => m_back1 (by omega) hB M hr c0)⟩
  cases e : im a1 with
  | none => exact ⟨_, pr_c (by omega) g.no (x_back2 (by omega) C hr c0 e) (fun h1 M => m_back2 (by omega) hB M hr c0 e)⟩
  | some w =>
    obtain ⟨υ, Λ'⟩ := w
    exact ⟨_, pr_c (by omega) g.up (x_back (by omega) C c0 e) (fun h1 M => m_back (by omega) hB M c0 e)⟩
end
