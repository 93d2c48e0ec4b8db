/-! The class: its shape. -/
def ShC (h : Hp) (b : Nat) : Prop :=
  hS h (b) = (11, 0) ∧ hS h (b + 37) = (103, 2) ∧ hS h (b + 38) = (6, 0) ∧ hS h (b + 39) = (100, 400) ∧ hS h (b + 59) = (1, 0) ∧ hS h (b + 60) = (0, 0) ∧ hS h (b + 61) = (7, 0) ∧ hS h (b + 62) = (101, 64) ∧ hS h (b + 63) = (100, 27) ∧ hS h (b + 64) = (5, 0) ∧ hS h (b + 77) = (100, 8) ∧ hS h (b + 78) = (100, 8) ∧ hS h (b + 79) = (100, 64) ∧ hS h (b + 80) = (100, 64) ∧ hS h (b + 81) = (100, 1024) ∧ hS h (b + 82) = (100, 8) ∧ hS h (b + 83) = (100, 9) ∧ hS h (b + 84) = (101, 51) ∧ hS h (b + 85) = (101, 21) ∧ hS h (b + 86) = (100, 8) ∧ hS h (b + 87) = (100, 7) ∧ hR h (b) 0 = some (b + 1) ∧ hR h (b) 1 = some (b + 13) ∧ hR h (b) 2 = some (b + 25) ∧ hR h (b) 3 = some (b + 37) ∧ hR h (b) 4 = some (b + 38) ∧ hR h (b) 5 = some (b + 49) ∧ hR h (b) 6 = some (b + 53) ∧ hR h (b) 7 = some (b + 55) ∧ hR h (b) 8 = some (b + 57) ∧ hR h (b) 9 = some (b + 59) ∧ hR h (b) 10 = some (b + 60) ∧ hR h (b) 11 = some (b + 64) ∧ hR h (b) 12 = some (b + 87) ∧ hR h (b + 38) 0 = some (b + 39) ∧ hR h (b + 38) 1 = some (b + 40) ∧ hR h (b + 59) 0 = some (b + 1) ∧ hR h (b + 59) 1 = some (b + 49) ∧ hR h (b + 59) 2 = some (b + 53) ∧ hR h (b + 59) 3 = some (b + 57) ∧ hR h (b + 60) 0 = some (b + 1) ∧ hR h (b + 60) 1 = some (b + 59) ∧ hR h (b + 60) 2 = some (b + 61) ∧ hR h (b + 60) 3 = some (b + 63) ∧ hR h (b + 61) 0 = some (b + 62) ∧ hR h (b + 64) 0 = some (b + 65) ∧ hR h (b + 64) 1 = some (b + 49) ∧ hR h (b + 64) 2 = some (b + 77) ∧ hR h (b + 64) 3 = some (b + 78) ∧ hR h (b + 64) 4 = some (b + 79) ∧ hR h (b + 64) 5 = some (b + 80) ∧ hR h (b + 64) 6 = some (b + 81) ∧ hR h (b + 64) 7 = some (b + 82) ∧ hR h (b + 64) 8 = some (b + 83) ∧ hR h (b + 64) 9 = some (b + 84) ∧ hR h (b + 64) 10 = some (b + 85) ∧ hR h (b + 64) 11 = some (b + 86) ∧ TwS h (b + 1) ∧ TwS h (b + 13) ∧ TwS h (b + 25) ∧ TwS h (b + 65) ∧ TxS h (b + 40) 400 12 ∧ JdS h (b + 49) ∧ PsS h (b + 53) ∧ PsS h (b + 55) ∧ RgS h (b + 57)
theorem ShC.s0 {h : Hp} {b : Nat} (H : ShC h b) : hS h (b) = (11, 0) := H.1
theorem ShC.s37 {h : Hp} {b : Nat} (H : ShC h b) : hS h (b + 37) = (103, 2) := H.2.1
theorem ShC.s38 {h : Hp} {b : Nat} (H : ShC h b) : hS h (b + 38) = (6, 0) := H.2.2.1
theorem ShC.s39 {h : Hp} {b : Nat} (H : ShC h b) : hS h (b + 39) = (100, 400) := H.2.2.2.1
theorem ShC.s59 {h : Hp} {b : Nat} (H : ShC h b) : hS h (b + 59) = (1, 0) := H.2.2.2.2.1
theorem ShC.s60 {h : Hp} {b : Nat} (H : ShC h b) : hS h (b + 60) = (0, 0) := H.2.2.2.2.2.1
theorem ShC.s61 {h : Hp} {b : Nat} (H : ShC h b) : hS h (b + 61) = (7, 0) := H.2.2.2.2.2.2.1
theorem ShC.s62 {h : Hp} {b : Nat} (H : ShC h b) : hS h (b + 62) = (101, 64) := H.2.2.2.2.2.2.2.1
theorem ShC.s63 {h : Hp} {b : Nat} (H : ShC h b) : hS h (b + 63) = (100, 27) := H.2.2.2.2.2.2.2.2.1
theorem ShC.s64 {h : Hp} {b : Nat} (H : ShC h b) : hS h (b + 64) = (5, 0) := H.2.2.2.2.2.2.2.2.2.1
theorem ShC.s77 {h : Hp} {b : Nat} (H : ShC h b) : hS h (b + 77) = (100, 8) := H.2.2.2.2.2.2.2.2.2.2.1
theorem ShC.s78 {h : Hp} {b : Nat} (H : ShC h b) : hS h (b + 78) = (100, 8) := H.2.2.2.2.2.2.2.2.2.2.2.1
theorem ShC.s79 {h : Hp} {b : Nat} (H : ShC h b) : hS h (b + 79) = (100, 64) := H.2.2.2.2.2.2.2.2.2.2.2.2.1
theorem ShC.s80 {h : Hp} {b : Nat} (H : ShC h b) : hS h (b + 80) = (100, 64) := H.2.2.2.2.2.2.2.2.2.2.2.2.2.1
theorem ShC.s81 {h : Hp} {b : Nat} (H : ShC h b) : hS h (b + 81) = (100, 1024) := H.2.2.2.2.2.2.2.2.2.2.2.2.2.2.1
theorem ShC.s82 {h : Hp} {b : Nat} (H : ShC h b) : hS h (b + 82) = (100, 8) := H.2.2.2.2.2.2.2.2.2.2.2.2.2.2.2.1
theorem ShC.s83 {h : Hp} {b : Nat} (H : ShC h b) : hS h (b + 83) = (100, 9) := H.2.2.2.2.2.2.2.2.2.2.2.2.2.2.2.2.1
theorem ShC.s84 {h : Hp} {b : Nat} (H : ShC h b) : hS h (b + 84) = (101, 51) := H.2.2.2.2.2.2.2.2.2.2.2.2.2.2.2.2.2.1
theorem ShC.s85 {h : Hp} {b : Nat} (H : ShC h b) : hS h (b + 85) = (101, 21) := H.2.2.2.2.2.2.2.2.2.2.2.2.2.2.2.2.2.2.1
theorem ShC.s86 {h : Hp} {b : Nat} (H : ShC h b) : hS h (b + 86) = (100, 8) := H.2.2.2.2.2.2.2.2.2.2.2.2.2.2.2.2.2.2.2.1
theorem ShC.s87 {h : Hp} {b : Nat} (H : ShC h b) : hS h (b + 87) = (100, 7) := H.2.2.2.2.2.2.2.2.2.2.2.2.2.2.2.2.2.2.2.2.1
theorem ShC.r0_0 {h : Hp} {b : Nat} (H : ShC h b) : hR h (b) 0 = some (b + 1) := H.2.2.2.2.2.2.2.2.2.2.2.2.2.2.2.2.2.2.2.2.2.1
theorem ShC.r0_1 {h : Hp} {b : Nat} (H : ShC h b) : hR h (b) 1 = some (b + 13) := H.2.2.2.2.2.2.2.2.2.2.2.2.2.2.2.2.2.2.2.2.2.2.1
theorem ShC.r0_2 {h : Hp} {b : Nat} (H : ShC h b) : hR h (b) 2 = some (b + 25) := H.2.2.2.2.2.2.2.2.2.2.2.2.2.2.2.2.2.2.2.2.2.2.2.1
theorem ShC.r0_3 {h : Hp} {b : Nat} (H : ShC h b) : hR h (b) 3 = some (b + 37) := H.2.2.2.2.2.2.2.2.2.2.2.2.2.2.2.2.2.2.2.2.2.2.2.2.1
theorem ShC.r0_4 {h : Hp} {b : Nat} (H : ShC h b) : hR h (b) 4 = some (b + 38) := H.2.2.2.2.2.2.2.2.2.2.2.2.2.2.2.2.2.2.2.2.2.2.2.2.2.1
theorem ShC.r0_5 {h : Hp} {b : Nat} (H : ShC h b) : hR h (b) 5 = some (b + 49) := H.2.2.2.2.2.2.2.2.2.2.2.2.2.2.2.2.2.2.2.2.2.2.2.2.2.2.1
theorem ShC.r0_6 {h : Hp} {b : Nat} (H : ShC h b) : hR h (b) 6 = some (b + 53) := H.2.2.2.2.2.2.2.2.2.2.2.2.2.2.2.2.2.2.2.2.2.2.2.2.2.2.2.1
theorem ShC.r0_7 {h : Hp} {b : Nat} (H : ShC h b) : hR h (b) 7 = some (b + 55) := H.2.2.2.2.2.2.2.2.2.2.2.2.2.2.2.2.2.2.2.2.2.2.2.2.2.2.2.2.1
theorem ShC.r0_8 {h : Hp} {b : Nat} (H : ShC h b) : hR h (b) 8 = some (b + 57) := H.2.2.2.2.2.2.2.2.2.2.2.2.2.2.2.2.2.2.2.2.2.2.2.2.2.2.2.2.2.1
theorem ShC.r0_9 {h : Hp} {b : Nat} (H : ShC h b) : hR h (b) 9 = some (b + 59) := H.2.2.2.2.2.2.2.2.2.2.2.2.2.2.2.2.2.2.2.2.2.2.2.2.2.2.2.2.2.2.1
theorem ShC.r0_10 {h : Hp} {b : Nat} (H : ShC h b) : hR h (b) 10 = some (b + 60) := H.2.2.2.2.2.2.2.2.2.2.2.2.2.2.2.2.2.2.2.2.2.2.2.2.2.2.2.2.2.2.2.1
theorem ShC.r0_11 {h : Hp} {b : Nat} (H : ShC h b) : hR h (b) 11 = some (b + 64) := H.2.2.2.2.2.2.2.2.2.2.2.2.2.2.2.2.2.2.2.2.2.2.2.2.2.2.2.2.2.2.2.2.1
theorem ShC.r0_12 {h : Hp} {b : Nat} (H : ShC h b) : hR h (b) 12 = some (b + 87) := H.2.2.2.2.2.2.2.2.2.2.2.2.2.2.2.2.2.2.2.2.2.2.2.2.2.2.2.2.2.2.2.2.2.1
theorem ShC.r38_0 {h : Hp} {b : Nat} (H : ShC h b) : hR h (b + 38) 0 = some (b + 39) := H.2.2.2.2.2.2.2.2.2.2.2.2.2.2.2.2.2.2.2.2.2.2.2.2.2.2.2.2.2.2.2.2.2.2.1
theorem ShC.r38_1 {h : Hp} {b : Nat} (H : ShC h b) : hR h (b + 38) 1 = some (b + 40) := H.2.2.2.2.2.2.2.2.2.2.2.2.2.2.2.2.2.2.2.2.2.2.2.2.2.2.2.2.2.2.2.2.2.2.2.1
theorem ShC.r59_0 {h : Hp} {b : Nat} (H : ShC h b) : hR h (b + 59) 0 = some (b + 1) := H.2.2.2.2.2.2.2.2.2.2.2.2.2.2.2.2.2.2.2.2.2.2.2.2.2.2.2.2.2.2.2.2.2.2.2.2.1
theorem ShC.r59_1 {h : Hp} {b : Nat} (H : ShC h b) : hR h (b + 59) 1 = some (b + 49) := H.2.2.2.2.2.2.2.2.2.2.2.2.2.2.2.2.2.2.2.2.2.2.2.2.2.2.2.2.2.2.2.2.2.2.2.2.2.1
theorem ShC.r59_2 {h : Hp} {b : Nat} (H : ShC h b) : hR h (b + 59) 2 = some (b + 53) := H.2.2.2.2.2.2.2.2.2.2.2.2.2.2.2.2.2.2.2.2.2.2.2.2.2.2.2.2.2.2.2.2.2.2.2.2.2.2.1
theorem ShC.r59_3 {h : Hp} {b : Nat} (H : ShC h b) : hR h (b + 59) 3 = some (b + 57) := H.2.2.2.2.2.2.2.2.2.2.2.2.2.2.2.2.2.2.2.2.2.2.2.2.2.2.2.2.2.2.2.2.2.2.2.2.2.2.2.1
theorem ShC.r60_0 {h : Hp} {b : Nat} (H : ShC h b) : hR h (b + 60) 0 = some (b + 1) := H.2.2.2.2.2.2.2.2.2.2.2.2.2.2.2.2.2.2.2.2.2.2.2.2.2.2.2.2.2.2.2.2.2.2.2.2.2.2.2.2.1
theorem ShC.r60_1 {h : Hp} {b : Nat} (H : ShC h b) : hR h (b + 60) 1 = some (b + 59) := H.2.2.2.2.2.2.2.2.2.2.2.2.2.2.2.2.2.2.2.2.2.2.2.2.2.2.2.2.2.2.2.2.2.2.2.2.2.2.2.2.2.1
theorem ShC.r60_2 {h : Hp} {b : Nat} (H : ShC h b) : hR h (b + 60) 2 = some (b + 61) := H.2.2.2.2.2.2.2.2.2.2.2.2.2.2.2.2.2.2.2.2.2.2.2.2.2.2.2.2.2.2.2.2.2.2.2.2.2.2.2.2.2.2.1
theorem ShC.r60_3 {h : Hp} {b : Nat} (H : ShC h b) : hR h (b + 60) 3 = some (b + 63) := H.2.2.2.2.2.2.2.2.2.2.2.2.2.2.2.2.2.2.2.2.2.2.2.2.2.2.2.2.2.2.2.2.2.2.2.2.2.2.2.2.2.2.2.1
theorem ShC.r61_0 {h : Hp} {b : Nat} (H : ShC h b) : hR h (b + 61) 0 = some (b + 62) := H.2.2.2.2.2.2.2.2.2.2.2.2.2.2.2.2.2.2.2.2.2.2.2.2.2.2.2.2.2.2.2.2.2.2.2.2.2.2.2.2.2.2.2.2.1
theorem ShC.r64_0 {h : Hp} {b : Nat} (H : ShC h b) : hR h (b + 64) 0 = some (b + 65) := H.2.2.2.2.2.2.2.2.2.2.2.2.2.2.2.2.2.2.2.2.2.2.2.2.2.2.2.2.2.2.2.2.2.2.2.2.2.2.2.2.2.2.2.2.2.1
theorem ShC.r64_1 {h : Hp} {b : Nat} (H : ShC h b) : hR h (b + 64) 1 = some (b + 49) := H.2.2.2.2.2.2.2.2.2.2.2.2.2.2.2.2.2.2.2.2.2.2.2.2.2.2.2.2.2.2.2.2.2.2.2.2.2.2.2.2.2.2.2.2.2.2.1
theorem ShC.r64_2 {h : Hp} {b : Nat} (H : ShC h b) : hR h (b + 64) 2 = some (b + 77) := H.2.2.2.2.2.2.2.2.2.2.2.2.2.2.2.2.2.2.2.2.2.2.2.2.2.2.2.2.2.2.2.2.2.2.2.2.2.2.2.2.2.2.2.2.2.2.2.1
theorem ShC.r64_3 {h : Hp} {b : Nat} (H : ShC h b) : hR h (b + 64) 3 = some (b + 78) := H.2.2.2.2.2.2.2.2.2.2.2.2.2.2.2.2.2.2.2.2.2.2.2.2.2.2.2.2.2.2.2.2.2.2.2.2.2.2.2.2.2.2.2.2.2.2.2.2.1
theorem ShC.r64_4 {h : Hp} {b : Nat} (H : ShC h b) : hR h (b + 64) 4 = some (b + 79) := H.2.2.2.2.2.2.2.2.2.2.2.2.2.2.2.2.2.2.2.2.2.2.2.2.2.2.2.2.2.2.2.2.2.2.2.2.2.2.2.2.2.2.2.2.2.2.2.2.2.1
theorem ShC.r64_5 {h : Hp} {b : Nat} (H : ShC h b) : hR h (b + 64) 5 = some (b + 80) := H.2.2.2.2.2.2.2.2.2.2.2.2.2.2.2.2.2.2.2.2.2.2.2.2.2.2.2.2.2.2.2.2.2.2.2.2.2.2.2.2.2.2.2.2.2.2.2.2.2.2.1
theorem ShC.r64_6 {h : Hp} {b : Nat} (H : ShC h b) : hR h (b + 64) 6 = some (b + 81) := H.2.2.2.2.2.2.2.2.2.2.2.2.2.2.2.2.2.2.2.2.2.2.2.2.2.2.2.2.2.2.2.2.2.2.2.2.2.2.2.2.2.2.2.2.2.2.2.2.2.2.2.1
theorem ShC.r64_7 {h : Hp} {b : Nat} (H : ShC h b) : hR h (b + 64) 7 = some (b + 82) := H.2.2.2.2.2.2.2.2.2.2.2.2.2.2.2.2.2.2.2.2.2.2.2.2.2.2.2.2.2.2.2.2.2.2.2.2.2.2.2.2.2.2.2.2.2.2.2.2.2.2.2.2.1
theorem ShC.r64_8 {h : Hp} {b : Nat} (H : ShC h b) : hR h (b + 64) 8 = some (b + 83) := H.2.2.2.2.2.2.2.2.2.2.2.2.2.2.2.2.2.2.2.2.2.2.2.2.2.2.2.2.2.2.2.2.2.2.2.2.2.2.2.2.2.2.2.2.2.2.2.2.2.2.2.2.2.1
theorem ShC.r64_9 {h : Hp} {b : Nat} (H : ShC h b) : hR h (b + 64) 9 = some (b + 84) := H.2.2.2.2.2.2.2.2.2.2.2.2.2.2.2.2.2.2.2.2.2.2.2.2.2.2.2.2.2.2.2.2.2.2.2.2.2.2.2.2.2.2.2.2.2.2.2.2.2.2.2.2.2.2.1
theorem ShC.r64_10 {h : Hp} {b : Nat} (H : ShC h b) : hR h (b + 64) 10 = some (b + 85) := H.2.2.2.2.2.2.2.2.2.2.2.2.2.2.2.2.2.2.2.2.2.2.2.2.2.2.2.2.2.2.2.2.2.2.2.2.2.2.2.2.2.2.2.2.2.2.2.2.2.2.2.2.2.2.2.1
theorem ShC.r64_11 {h : Hp} {b : Nat} (H : ShC h b) : hR h (b + 64) 11 = some (b + 86) := H.2.2.2.2.2.2.2.2.2.2.2.2.2.2.2.2.2.2.2.2.2.2.2.2.2.2.2.2.2.2.2.2.2.2.2.2.2.2.2.2.2.2.2.2.2.2.2.2.2.2.2.2.2.2.2.2.1
theorem ShC.t1 {h : Hp} {b : Nat} (H : ShC h b) : TwS h (b + 1) := H.2.2.2.2.2.2.2.2.2.2.2.2.2.2.2.2.2.2.2.2.2.2.2.2.2.2.2.2.2.2.2.2.2.2.2.2.2.2.2.2.2.2.2.2.2.2.2.2.2.2.2.2.2.2.2.2.2.1
theorem ShC.t13 {h : Hp} {b : Nat} (H : ShC h b) : TwS h (b + 13) := H.2.2.2.2.2.2.2.2.2.2.2.2.2.2.2.2.2.2.2.2.2.2.2.2.2.2.2.2.2.2.2.2.2.2.2.2.2.2.2.2.2.2.2.2.2.2.2.2.2.2.2.2.2.2.2.2.2.2.1
theorem ShC.t25 {h : Hp} {b : Nat} (H : ShC h b) : TwS h (b + 25) := H.2.2.2.2.2.2.2.2.2.2.2.2.2.2.2.2.2.2.2.2.2.2.2.2.2.2.2.2.2.2.2.2.2.2.2.2.2.2.2.2.2.2.2.2.2.2.2.2.2.2.2.2.2.2.2.2.2.2.2.1
theorem ShC.t65 {h : Hp} {b : Nat} (H : ShC h b) : TwS h (b + 65) := H.2.2.2.2.2.2.2.2.2.2.2.2.2.2.2.2.2.2.2.2.2.2.2.2.2.2.2.2.2.2.2.2.2.2.2.2.2.2.2.2.2.2.2.2.2.2.2.2.2.2.2.2.2.2.2.2.2.2.2.2.1
theorem ShC.x40 {h : Hp} {b : Nat} (H : ShC h b) : TxS h (b + 40) 400 12 := H.2.2.2.2.2.2.2.2.2.2.2.2.2.2.2.2.2.2.2.2.2.2.2.2.2.2.2.2.2.2.2.2.2.2.2.2.2.2.2.2.2.2.2.2.2.2.2.2.2.2.2.2.2.2.2.2.2.2.2.2.2.1
theorem ShC.j49 {h : Hp} {b : Nat} (H : ShC h b) : JdS h (b + 49) := H.2.2.2.2.2.2.2.2.2.2.2.2.2.2.2.2.2.2.2.2.2.2.2.2.2.2.2.2.2.2.2.2.2.2.2.2.2.2.2.2.2.2.2.2.2.2.2.2.2.2.2.2.2.2.2.2.2.2.2.2.2.2.1
theorem ShC.p53 {h : Hp} {b : Nat} (H : ShC h b) : PsS h (b + 53) := H.2.2.2.2.2.2.2.2.2.2.2.2.2.2.2.2.2.2.2.2.2.2.2.2.2.2.2.2.2.2.2.2.2.2.2.2.2.2.2.2.2.2.2.2.2.2.2.2.2.2.2.2.2.2.2.2.2.2.2.2.2.2.2.1
theorem ShC.p55 {h : Hp} {b : Nat} (H : ShC h b) : PsS h (b + 55) := H.2.2.2.2.2.2.2.2.2.2.2.2.2.2.2.2.2.2.2.2.2.2.2.2.2.2.2.2.2.2.2.2.2.2.2.2.2.2.2.2.2.2.2.2.2.2.2.2.2.2.2.2.2.2.2.2.2.2.2.2.2.2.2.2.1
theorem ShC.g57 {h : Hp} {b : Nat} (H : ShC h b) : RgS h (b + 57) := H.2.2.2.2.2.2.2.2.2.2.2.2.2.2.2.2.2.2.2.2.2.2.2.2.2.2.2.2.2.2.2.2.2.2.2.2.2.2.2.2.2.2.2.2.2.2.2.2.2.2.2.2.2.2.2.2.2.2.2.2.2.2.2.2.2
/-- the class's objects; their references that may change -/
def stO (b a : Nat) : Prop := a = b ∨ a = b + 1 ∨ a = b + 13 ∨ a = b + 25 ∨ a = b + 38 ∨ a = b + 40 ∨ a = b + 49 ∨ a = b + 50 ∨ a = b + 53 ∨ a = b + 55 ∨ a = b + 57 ∨ a = b + 59 ∨ a = b + 60 ∨ a = b + 61 ∨ a = b + 64 ∨ a = b + 65
def dyR (b a : Nat) (k : Int) : Prop := ¬ stO b a ∨ (a = b + 49 ∧ (k = 2 ∨ k = 3))
/-- shapes and fixed references of the class's 88 cells are the same -/
def FsC (b : Nat) (h h' : Hp) : Prop := (∀ a, b ≤ a → a < b + 88 → hS h' a = hS h a) ∧ ∀ a k, b ≤ a → a < b + 88 → ¬ dyR b a k → hR h' a k = hR h a k
theorem FsC.tw1 {h h' : Hp} {b : Nat} (f : FsC b h h') (H : TwS h (b + 1)) : TwS h' (b + 1) := ⟨(f.1 (b + 1 + 0) (by omega) (by omega)).trans H.1, (f.1 (b + 1 + 1) (by omega) (by omega)).trans H.2.1, (f.1 (b + 1 + 2) (by omega) (by omega)).trans H.2.2.1, (f.1 (b + 1 + 3) (by omega) (by omega)).trans H.2.2.2.1, (f.1 (b + 1 + 4) (by omega) (by omega)).trans H.2.2.2.2.1, (f.1 (b + 1 + 5) (by omega) (by omega)).trans H.2.2.2.2.2.1, (f.1 (b + 1 + 6) (by omega) (by omega)).trans H.2.2.2.2.2.2.1, (f.1 (b + 1 + 7) (by omega) (by omega)).trans H.2.2.2.2.2.2.2.1, (f.1 (b + 1 + 8) (by omega) (by omega)).trans H.2.2.2.2.2.2.2.2.1, (f.1 (b + 1 + 9) (by omega) (by omega)).trans H.2.2.2.2.2.2.2.2.2.1, (f.1 (b + 1 + 10) (by omega) (by omega)).trans H.2.2.2.2.2.2.2.2.2.2.1, (f.1 (b + 1 + 11) (by omega) (by omega)).trans H.2.2.2.2.2.2.2.2.2.2.2.1, (f.2 (b + 1) 0 (by omega) (by omega) (by unfold dyR stO; omega)).trans H.2.2.2.2.2.2.2.2.2.2.2.2.1, (f.2 (b + 1) 1 (by omega) (by omega) (by unfold dyR stO; omega)).trans H.2.2.2.2.2.2.2.2.2.2.2.2.2.1, (f.2 (b + 1) 2 (by omega) (by omega) (by unfold dyR stO; omega)).trans H.2.2.2.2.2.2.2.2.2.2.2.2.2.2.1, (f.2 (b + 1) 3 (by omega) (by omega) (by unfold dyR stO; omega)).trans H.2.2.2.2.2.2.2.2.2.2.2.2.2.2.2.1, (f.2 (b + 1) 4 (by omega) (by omega) (by unfold dyR stO; omega)).trans H.2.2.2.2.2.2.2.2.2.2.2.2.2.2.2.2.1, (f.2 (b + 1) 5 (by omega) (by omega) (by unfold dyR stO; omega)).trans H.2.2.2.2.2.2.2.2.2.2.2.2.2.2.2.2.2.1, (f.2 (b + 1) 6 (by omega) (by omega) (by unfold dyR stO; omega)).trans H.2.2.2.2.2.2.2.2.2.2.2.2.2.2.2.2.2.2.1, (f.2 (b + 1) 7 (by omega) (by omega) (by unfold dyR stO; omega)).trans H.2.2.2.2.2.2.2.2.2.2.2.2.2.2.2.2.2.2.2.1, (f.2 (b + 1) 8 (by omega) (by omega) (by unfold dyR stO; omega)).trans H.2.2.2.2.2.2.2.2.2.2.2.2.2.2.2.2.2.2.2.2.1, (f.2 (b + 1) 9 (by omega) (by omega) (by unfold dyR stO; omega)).trans H.2.2.2.2.2.2.2.2.2.2.2.2.2.2.2.2.2.2.2.2.2.1, (f.2 (b + 1) 10 (by omega) (by omega) (by unfold dyR stO; omega)).trans H.2.2.2.2.2.2.2.2.2.2.2.2.2.2.2.2.2.2.2.2.2.2⟩
theorem FsC.tw13 {h h' : Hp} {b : Nat} (f : FsC b h h') (H : TwS h (b + 13)) : TwS h' (b + 13) := ⟨(f.1 (b + 13 + 0) (by omega) (by omega)).trans H.1, (f.1 (b + 13 + 1) (by omega) (by omega)).trans H.2.1, (f.1 (b + 13 + 2) (by omega) (by omega)).trans H.2.2.1, (f.1 (b + 13 + 3) (by omega) (by omega)).trans H.2.2.2.1, (f.1 (b + 13 + 4) (by omega) (by omega)).trans H.2.2.2.2.1, (f.1 (b + 13 + 5) (by omega) (by omega)).trans H.2.2.2.2.2.1, (f.1 (b + 13 + 6) (by omega) (by omega)).trans H.2.2.2.2.2.2.1, (f.1 (b + 13 + 7) (by omega) (by omega)).trans H.2.2.2.2.2.2.2.1, (f.1 (b + 13 + 8) (by omega) (by omega)).trans H.2.2.2.2.2.2.2.2.1, (f.1 (b + 13 + 9) (by omega) (by omega)).trans H.2.2.2.2.2.2.2.2.2.1, (f.1 (b + 13 + 10) (by omega) (by omega)).trans H.2.2.2.2.2.2.2.2.2.2.1, (f.1 (b + 13 + 11) (by omega) (by omega)).trans H.2.2.2.2.2.2.2.2.2.2.2.1, (f.2 (b + 13) 0 (by omega) (by omega) (by unfold dyR stO; omega)).trans H.2.2.2.2.2.2.2.2.2.2.2.2.1, (f.2 (b + 13) 1 (by omega) (by omega) (by unfold dyR stO; omega)).trans H.2.2.2.2.2.2.2.2.2.2.2.2.2.1, (f.2 (b + 13) 2 (by omega) (by omega) (by unfold dyR stO; omega)).trans H.2.2.2.2.2.2.2.2.2.2.2.2.2.2.1, (f.2 (b + 13) 3 (by omega) (by omega) (by unfold dyR stO; omega)).trans H.2.2.2.2.2.2.2.2.2.2.2.2.2.2.2.1, (f.2 (b + 13) 4 (by omega) (by omega) (by unfold dyR stO; omega)).trans H.2.2.2.2.2.2.2.2.2.2.2.2.2.2.2.2.1, (f.2 (b + 13) 5 (by omega) (by omega) (by unfold dyR stO; omega)).trans H.2.2.2.2.2.2.2.2.2.2.2.2.2.2.2.2.2.1, (f.2 (b + 13) 6 (by omega) (by omega) (by unfold dyR stO; omega)).trans H.2.2.2.2.2.2.2.2.2.2.2.2.2.2.2.2.2.2.1, (f.2 (b + 13) 7 (by omega) (by omega) (by unfold dyR stO; omega)).trans H.2.2.2.2.2.2.2.2.2.2.2.2.2.2.2.2.2.2.2.1, (f.2 (b + 13) 8 (by omega) (by omega) (by unfold dyR stO; omega)).trans H.2.2.2.2.2.2.2.2.2.2.2.2.2.2.2.2.2.2.2.2.1, (f.2 (b + 13) 9 (by omega) (by omega) (by unfold dyR stO; omega)).trans H.2.2.2.2.2.2.2.2.2.2.2.2.2.2.2.2.2.2.2.2.2.1, (f.2 (b + 13) 10 (by omega) (by omega) (by unfold dyR stO; omega)).trans H.2.2.2.2.2.2.2.2.2.2.2.2.2.2.2.2.2.2.2.2.2.2⟩
theorem FsC.tw25 {h h' : Hp} {b : Nat} (f : FsC b h h') (H : TwS h (b + 25)) : TwS h' (b + 25) := ⟨(f.1 (b + 25 + 0) (by omega) (by omega)).trans H.1, (f.1 (b + 25 + 1) (by omega) (by omega)).trans H.2.1, (f.1 (b + 25 + 2) (by omega) (by omega)).trans H.2.2.1, (f.1 (b + 25 + 3) (by omega) (by omega)).trans H.2.2.2.1, (f.1 (b + 25 + 4) (by omega) (by omega)).trans H.2.2.2.2.1, (f.1 (b + 25 + 5) (by omega) (by omega)).trans H.2.2.2.2.2.1, (f.1 (b + 25 + 6) (by omega) (by omega)).trans H.2.2.2.2.2.2.1, (f.1 (b + 25 + 7) (by omega) (by omega)).trans H.2.2.2.2.2.2.2.1, (f.1 (b + 25 + 8) (by omega) (by omega)).trans H.2.2.2.2.2.2.2.2.1, (f.1 (b + 25 + 9) (by omega) (by omega)).trans H.2.2.2.2.2.2.2.2.2.1, (f.1 (b + 25 + 10) (by omega) (by omega)).trans H.2.2.2.2.2.2.2.2.2.2.1, (f.1 (b + 25 + 11) (by omega) (by omega)).trans H.2.2.2.2.2.2.2.2.2.2.2.1, (f.2 (b + 25) 0 (by omega) (by omega) (by unfold dyR stO; omega)).trans H.2.2.2.2.2.2.2.2.2.2.2.2.1, (f.2 (b + 25) 1 (by omega) (by omega) (by unfold dyR stO; omega)).trans H.2.2.2.2.2.2.2.2.2.2.2.2.2.1, (f.2 (b + 25) 2 (by omega) (by omega) (by unfold dyR stO; omega)).trans H.2.2.2.2.2.2.2.2.2.2.2.2.2.2.1, (f.2 (b + 25) 3 (by omega) (by omega) (by unfold dyR stO; omega)).trans H.2.2.2.2.2.2.2.2.2.2.2.2.2.2.2.1, (f.2 (b + 25) 4 (by omega) (by omega) (by unfold dyR stO; omega)).trans H.2.2.2.2.2.2.2.2.2.2.2.2.2.2.2.2.1, (f.2 (b + 25) 5 (by omega) (by omega) (by unfold dyR stO; omega)).trans H.2.2.2.2.2.2.2.2.2.2.2.2.2.2.2.2.2.1, (f.2 (b + 25) 6 (by omega) (by omega) (by unfold dyR stO; omega)).trans H.2.2.2.2.2.2.2.2.2.2.2.2.2.2.2.2.2.2.1, (f.2 (b + 25) 7 (by omega) (by omega) (by unfold dyR stO; omega)).trans H.2.2.2.2.2.2.2.2.2.2.2.2.2.2.2.2.2.2.2.1, (f.2 (b + 25) 8 (by omega) (by omega) (by unfold dyR stO; omega)).trans H.2.2.2.2.2.2.2.2.2.2.2.2.2.2.2.2.2.2.2.2.1, (f.2 (b + 25) 9 (by omega) (by omega) (by unfold dyR stO; omega)).trans H.2.2.2.2.2.2.2.2.2.2.2.2.2.2.2.2.2.2.2.2.2.1, (f.2 (b + 25) 10 (by omega) (by omega) (by unfold dyR stO; omega)).trans H.2.2.2.2.2.2.2.2.2.2.2.2.2.2.2.2.2.2.2.2.2.2⟩
theorem FsC.tw65 {h h' : Hp} {b : Nat} (f : FsC b h h') (H : TwS h (b + 65)) : TwS h' (b + 65) := ⟨(f.1 (b + 65 + 0) (by omega) (by omega)).trans H.1, (f.1 (b + 65 + 1) (by omega) (by omega)).trans H.2.1, (f.1 (b + 65 + 2) (by omega) (by omega)).trans H.2.2.1, (f.1 (b + 65 + 3) (by omega) (by omega)).trans H.2.2.2.1, (f.1 (b + 65 + 4) (by omega) (by omega)).trans H.2.2.2.2.1, (f.1 (b + 65 + 5) (by omega) (by omega)).trans H.2.2.2.2.2.1, (f.1 (b + 65 + 6) (by omega) (by omega)).trans H.2.2.2.2.2.2.1, (f.1 (b + 65 + 7) (by omega) (by omega)).trans H.2.2.2.2.2.2.2.1, (f.1 (b + 65 + 8) (by omega) (by omega)).trans H.2.2.2.2.2.2.2.2.1, (f.1 (b + 65 + 9) (by omega) (by omega)).trans H.2.2.2.2.2.2.2.2.2.1, (f.1 (b + 65 + 10) (by omega) (by omega)).trans H.2.2.2.2.2.2.2.2.2.2.1, (f.1 (b + 65 + 11) (by omega) (by omega)).trans H.2.2.2.2.2.2.2.2.2.2.2.1, (f.2 (b + 65) 0 (by omega) (by omega) (by unfold dyR stO; omega)).trans H.2.2.2.2.2.2.2.2.2.2.2.2.1, (f.2 (b + 65) 1 (by omega) (by omega) (by unfold dyR stO; omega)).trans H.2.2.2.2.2.2.2.2.2.2.2.2.2.1, (f.2 (b + 65) 2 (by omega) (by omega) (by unfold dyR stO; omega)).trans H.2.2.2.2.2.2.2.2.2.2.2.2.2.2.1, (f.2 (b + 65) 3 (by omega) (by omega) (by unfold dyR stO; omega)).trans H.2.2.2.2.2.2.2.2.2.2.2.2.2.2.2.1, (f.2 (b + 65) 4 (by omega) (by omega) (by unfold dyR stO; omega)).trans H.2.2.2.2.2.2.2.2.2.2.2.2.2.2.2.2.1, (f.2 (b + 65) 5 (by omega) (by omega) (by unfold dyR stO; omega)).trans H.2.2.2.2.2.2.2.2.2.2.2.2.2.2.2.2.2.1, (f.2 (b + 65) 6 (by omega) (by omega) (by unfold dyR stO; omega)).trans H.2.2.2.2.2.2.2.2.2.2.2.2.2.2.2.2.2.2.1, (f.2 (b + 65) 7 (by omega) (by omega) (by unfold dyR stO; omega)).trans H.2.2.2.2.2.2.2.2.2.2.2.2.2.2.2.2.2.2.2.1, (f.2 (b + 65) 8 (by omega) (by omega) (by unfold dyR stO; omega)).trans H.2.2.2.2.2.2.2.2.2.2.2.2.2.2.2.2.2.2.2.2.1, (f.2 (b + 65) 9 (by omega) (by omega) (by unfold dyR stO; omega)).trans H.2.2.2.2.2.2.2.2.2.2.2.2.2.2.2.2.2.2.2.2.2.1, (f.2 (b + 65) 10 (by omega) (by omega) (by unfold dyR stO; omega)).trans H.2.2.2.2.2.2.2.2.2.2.2.2.2.2.2.2.2.2.2.2.2.2⟩
theorem FsC.tx {h h' : Hp} {b : Nat} (f : FsC b h h') (H : TxS h (b + 40) 400 12) : TxS h' (b + 40) 400 12 := ⟨(f.1 (b + 40 + 0) (by omega) (by omega)).trans H.1, (f.1 (b + 40 + 1) (by omega) (by omega)).trans H.2.1, (f.1 (b + 40 + 2) (by omega) (by omega)).trans H.2.2.1, (f.1 (b + 40 + 3) (by omega) (by omega)).trans H.2.2.2.1, (f.1 (b + 40 + 4) (by omega) (by omega)).trans H.2.2.2.2.1, (f.1 (b + 40 + 5) (by omega) (by omega)).trans H.2.2.2.2.2.1, (f.1 (b + 40 + 6) (by omega) (by omega)).trans H.2.2.2.2.2.2.1, (f.1 (b + 40 + 7) (by omega) (by omega)).trans H.2.2.2.2.2.2.2.1, (f.1 (b + 40 + 8) (by omega) (by omega)).trans H.2.2.2.2.2.2.2.2.1, (f.2 (b + 40) 0 (by omega) (by omega) (by unfold dyR stO; omega)).trans H.2.2.2.2.2.2.2.2.2.1, (f.2 (b + 40) 1 (by omega) (by omega) (by unfold dyR stO; omega)).trans H.2.2.2.2.2.2.2.2.2.2.1, (f.2 (b + 40) 2 (by omega) (by omega) (by unfold dyR stO; omega)).trans H.2.2.2.2.2.2.2.2.2.2.2.1, (f.2 (b + 40) 3 (by omega) (by omega) (by unfold dyR stO; omega)).trans H.2.2.2.2.2.2.2.2.2.2.2.2.1, (f.2 (b + 40) 4 (by omega) (by omega) (by unfold dyR stO; omega)).trans H.2.2.2.2.2.2.2.2.2.2.2.2.2.1, (f.2 (b + 40) 5 (by omega) (by omega) (by unfold dyR stO; omega)).trans H.2.2.2.2.2.2.2.2.2.2.2.2.2.2.1, (f.2 (b + 40) 6 (by omega) (by omega) (by unfold dyR stO; omega)).trans H.2.2.2.2.2.2.2.2.2.2.2.2.2.2.2.1, (f.2 (b + 40) 7 (by omega) (by omega) (by unfold dyR stO; omega)).trans H.2.2.2.2.2.2.2.2.2.2.2.2.2.2.2.2⟩
theorem FsC.jd {h h' : Hp} {b : Nat} (f : FsC b h h') (H : JdS h (b + 49)) : JdS h' (b + 49) := ⟨(f.1 (b + 49 + 0) (by omega) (by omega)).trans H.1, (f.1 (b + 49 + 1) (by omega) (by omega)).trans H.2.1, (f.1 (b + 49 + 2) (by omega) (by omega)).trans H.2.2.1, (f.1 (b + 49 + 3) (by omega) (by omega)).trans H.2.2.2.1, (f.2 (b + 49 + 0) 0 (by omega) (by omega) (by unfold dyR stO; omega)).trans H.2.2.2.2.1, (f.2 (b + 49 + 0) 1 (by omega) (by omega) (by unfold dyR stO; omega)).trans H.2.2.2.2.2.1, (f.2 (b + 49 + 1) 0 (by omega) (by omega) (by unfold dyR stO; omega)).trans H.2.2.2.2.2.2⟩
theorem FsC.p53 {h h' : Hp} {b : Nat} (f : FsC b h h') (H : PsS h (b + 53)) : PsS h' (b + 53) := ⟨(f.1 (b + 53 + 0) (by omega) (by omega)).trans H.1, (f.1 (b + 53 + 1) (by omega) (by omega)).trans H.2.1, (f.2 (b + 53) 0 (by omega) (by omega) (by unfold dyR stO; omega)).trans H.2.2⟩
theorem FsC.p55 {h h' : Hp} {b : Nat} (f : FsC b h h') (H : PsS h (b + 55)) : PsS h' (b + 55) := ⟨(f.1 (b + 55 + 0) (by omega) (by omega)).trans H.1, (f.1 (b + 55 + 1) (by omega) (by omega)).trans H.2.1, (f.2 (b + 55) 0 (by omega) (by omega) (by unfold dyR stO; omega)).trans H.2.2⟩
theorem FsC.g57 {h h' : Hp} {b : Nat} (f : FsC b h h') (H : RgS h (b + 57)) : RgS h' (b + 57) := ⟨(f.1 (b + 57 + 0) (by omega) (by omega)).trans H.1, (f.1 (b + 57 + 1) (by omega) (by omega)).trans H.2.1, (f.2 (b + 57) 0 (by omega) (by omega) (by unfold dyR stO; omega)).trans H.2.2⟩
theorem ShC.fr {h h' : Hp} {b : Nat} (H : ShC h b) (f : FsC b h h') : ShC h' b := ⟨(f.1 (b) (by omega) (by omega)).trans H.s0,
  (f.1 (b + 37) (by omega) (by omega)).trans H.s37,
  (f.1 (b + 38) (by omega) (by omega)).trans H.s38,
  (f.1 (b + 39) (by omega) (by omega)).trans H.s39,
  (f.1 (b + 59) (by omega) (by omega)).trans H.s59,
  (f.1 (b + 60) (by omega) (by omega)).trans H.s60,
  (f.1 (b + 61) (by omega) (by omega)).trans H.s61,
  (f.1 (b + 62) (by omega) (by omega)).trans H.s62,
  (f.1 (b + 63) (by omega) (by omega)).trans H.s63,
  (f.1 (b + 64) (by omega) (by omega)).trans H.s64,
  (f.1 (b + 77) (by omega) (by omega)).trans H.s77,
  (f.1 (b + 78) (by omega) (by omega)).trans H.s78,
  (f.1 (b + 79) (by omega) (by omega)).trans H.s79,
  (f.1 (b + 80) (by omega) (by omega)).trans H.s80,
  (f.1 (b + 81) (by omega) (by omega)).trans H.s81,
  (f.1 (b + 82) (by omega) (by omega)).trans H.s82,
  (f.1 (b + 83) (by omega) (by omega)).trans H.s83,
  (f.1 (b + 84) (by omega) (by omega)).trans H.s84,
  (f.1 (b + 85) (by omega) (by omega)).trans H.s85,
  (f.1 (b + 86) (by omega) (by omega)).trans H.s86,
  (f.1 (b + 87) (by omega) (by omega)).trans H.s87,
  (f.2 (b) 0 (by omega) (by omega) (by unfold dyR stO; omega)).trans H.r0_0,
  (f.2 (b) 1 (by omega) (by omega) (by unfold dyR stO; omega)).trans H.r0_1,
  (f.2 (b) 2 (by omega) (by omega) (by unfold dyR stO; omega)).trans H.r0_2,
  (f.2 (b) 3 (by omega) (by omega) (by unfold dyR stO; omega)).trans H.r0_3,
  (f.2 (b) 4 (by omega) (by omega) (by unfold dyR stO; omega)).trans H.r0_4,
  (f.2 (b) 5 (by omega) (by omega) (by unfold dyR stO; omega)).trans H.r0_5,
  (f.2 (b) 6 (by omega) (by omega) (by unfold dyR stO; omega)).trans H.r0_6,
  (f.2 (b) 7 (by omega) (by omega) (by unfold dyR stO; omega)).trans H.r0_7,
  (f.2 (b) 8 (by omega) (by omega) (by unfold dyR stO; omega)).trans H.r0_8,
  (f.2 (b) 9 (by omega) (by omega) (by unfold dyR stO; omega)).trans H.r0_9,
  (f.2 (b) 10 (by omega) (by omega) (by unfold dyR stO; omega)).trans H.r0_10,
  (f.2 (b) 11 (by omega) (by omega) (by unfold dyR stO; omega)).trans H.r0_11,
  (f.2 (b) 12 (by omega) (by omega) (by unfold dyR stO; omega)).trans H.r0_12,
  (f.2 (b + 38) 0 (by omega) (by omega) (by unfold dyR stO; omega)).trans H.r38_0,
  (f.2 (b + 38) 1 (by omega) (by omega) (by unfold dyR stO; omega)).trans H.r38_1,
  (f.2 (b + 59) 0 (by omega) (by omega) (by unfold dyR stO; omega)).trans H.r59_0,
  (f.2 (b + 59) 1 (by omega) (by omega) (by unfold dyR stO; omega)).trans H.r59_1,
  (f.2 (b + 59) 2 (by omega) (by omega) (by unfold dyR stO; omega)).trans H.r59_2,
  (f.2 (b + 59) 3 (by omega) (by omega) (by unfold dyR stO; omega)).trans H.r59_3,
  (f.2 (b + 60) 0 (by omega) (by omega) (by unfold dyR stO; omega)).trans H.r60_0,
  (f.2 (b + 60) 1 (by omega) (by omega) (by unfold dyR stO; omega)).trans H.r60_1,
  (f.2 (b + 60) 2 (by omega) (by omega) (by unfold dyR stO; omega)).trans H.r60_2,
  (f.2 (b + 60) 3 (by omega) (by omega) (by unfold dyR stO; omega)).trans H.r60_3,
  (f.2 (b + 61) 0 (by omega) (by omega) (by unfold dyR stO; omega)).trans H.r61_0,
  (f.2 (b + 64) 0 (by omega) (by omega) (by unfold dyR stO; omega)).trans H.r64_0,
  (f.2 (b + 64) 1 (by omega) (by omega) (by unfold dyR stO; omega)).trans H.r64_1,
  (f.2 (b + 64) 2 (by omega) (by omega) (by unfold dyR stO; omega)).trans H.r64_2,
  (f.2 (b + 64) 3 (by omega) (by omega) (by unfold dyR stO; omega)).trans H.r64_3,
  (f.2 (b + 64) 4 (by omega) (by omega) (by unfold dyR stO; omega)).trans H.r64_4,
  (f.2 (b + 64) 5 (by omega) (by omega) (by unfold dyR stO; omega)).trans H.r64_5,
  (f.2 (b + 64) 6 (by omega) (by omega) (by unfold dyR stO; omega)).trans H.r64_6,
  (f.2 (b + 64) 7 (by omega) (by omega) (by unfold dyR stO; omega)).trans H.r64_7,
  (f.2 (b + 64) 8 (by omega) (by omega) (by unfold dyR stO; omega)).trans H.r64_8,
  (f.2 (b + 64) 9 (by omega) (by omega) (by unfold dyR stO; omega)).trans H.r64_9,
  (f.2 (b + 64) 10 (by omega) (by omega) (by unfold dyR stO; omega)).trans H.r64_10,
  (f.2 (b + 64) 11 (by omega) (by omega) (by unfold dyR stO; omega)).trans H.r64_11,
  f.tw1 H.t1,
  f.tw13 H.t13,
  f.tw25 H.t25,
  f.tw65 H.t65,
  f.tx H.x40,
  f.jd H.j49,
  f.p53 H.p53,
  f.p55 H.p55,
  f.g57 H.g57⟩
theorem FsC.rfl' {b : Nat} {h : Hp} : FsC b h h := ⟨fun _ _ _ => rfl, fun _ _ _ _ _ => rfl⟩
theorem FsC.trans {b : Nat} {h h1 h2 : Hp} (p : FsC b h h1) (q : FsC b h1 h2) : FsC b h h2 := ⟨fun a a0 a1 => (q.1 a a0 a1).trans (p.1 a a0 a1), fun a k a0 a1 a2 => (q.2 a k a0 a1 a2).trans (p.2 a k a0 a1 a2)⟩
theorem FsC.sI {b a : Nat} {h h1 : Hp} {k x : Int} (p : FsC b h h1) : FsC b h (sI h1 a k x) := ⟨fun q a0 a1 => by rw [hS_sI]; exact p.1 q a0 a1, fun q k a0 a1 a2 => by rw [hR_sI]; exact p.2 q k a0 a1 a2⟩
theorem FsC.sR {b a : Nat} {h h1 : Hp} {k : Int} {x : Option Nat} (p : FsC b h h1) (hd : dyR b a k ∨ a < b ∨ b + 88 ≤ a) : FsC b h (sR h1 a k x) := ⟨fun q a0 a1 => by rw [hS_sR]; exact p.1 q a0 a1, fun q j a0 a1 a2 => by
  rw [hR_sR, if_neg]
  · exact p.2 q j a0 a1 a2
  · rintro ⟨e1, e2⟩
    subst e1; subst e2
    rcases hd with hd | hd
    · exact a2 hd
    · omega⟩
theorem FsC.fr {b : Nat} {h h1 h2 : Hp} {S : Nat → Prop} (p : FsC b h h1) (f : Fr S h1 h2) (hr : ∀ a k, S a → b ≤ a → a < b + 88 → ¬ dyR b a k → hR h2 a k = hR h1 a k) : FsC b h h2 := p.trans ⟨fun a _ _ => f.2.1 a, fun a k a0 a1 a2 => by
  by_cases hs : S a
  · exact hr a k hs a0 a1 a2
  · exact (f.2.2 a hs).2 k⟩
