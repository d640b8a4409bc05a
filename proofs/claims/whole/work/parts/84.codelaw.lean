set_option maxRecDepth 100000
theorem am_okw0 : ∀ j, j < 24 → am_okE 137 (0 + j) (am_nth am_c137 (0 + j) (0, .nop, 0, 0, 0, [])) = true := by decide +kernel
theorem am_okw24 : ∀ j, j < 24 → am_okE 137 (24 + j) (am_nth am_c137 (24 + j) (0, .nop, 0, 0, 0, [])) = true := by decide +kernel
theorem am_okw48 : ∀ j, j < 24 → am_okE 137 (48 + j) (am_nth am_c137 (48 + j) (0, .nop, 0, 0, 0, [])) = true := by decide +kernel
theorem am_okw72 : ∀ j, j < 24 → am_okE 137 (72 + j) (am_nth am_c137 (72 + j) (0, .nop, 0, 0, 0, [])) = true := by decide +kernel
theorem am_okw96 : ∀ j, j < 24 → am_okE 137 (96 + j) (am_nth am_c137 (96 + j) (0, .nop, 0, 0, 0, [])) = true := by decide +kernel
theorem am_okw120 : ∀ j, j < 24 → am_okE 137 (120 + j) (am_nth am_c137 (120 + j) (0, .nop, 0, 0, 0, [])) = true := by decide +kernel
theorem am_okw144 : ∀ j, j < 24 → am_okE 137 (144 + j) (am_nth am_c137 (144 + j) (0, .nop, 0, 0, 0, [])) = true := by decide +kernel
theorem am_okw168 : ∀ j, j < 24 → am_okE 137 (168 + j) (am_nth am_c137 (168 + j) (0, .nop, 0, 0, 0, [])) = true := by decide +kernel
theorem am_okw192 : ∀ j, j < 24 → am_okE 137 (192 + j) (am_nth am_c137 (192 + j) (0, .nop, 0, 0, 0, [])) = true := by decide +kernel
theorem am_okw216 : ∀ j, j < 24 → am_okE 137 (216 + j) (am_nth am_c137 (216 + j) (0, .nop, 0, 0, 0, [])) = true := by decide +kernel
theorem am_okw240 : ∀ j, j < 24 → am_okE 137 (240 + j) (am_nth am_c137 (240 + j) (0, .nop, 0, 0, 0, [])) = true := by decide +kernel
theorem am_okw264 : ∀ j, j < 24 → am_okE 137 (264 + j) (am_nth am_c137 (264 + j) (0, .nop, 0, 0, 0, [])) = true := by decide +kernel
theorem am_okw288 : ∀ j, j < 24 → am_okE 137 (288 + j) (am_nth am_c137 (288 + j) (0, .nop, 0, 0, 0, [])) = true := by decide +kernel
theorem am_okw312 : ∀ j, j < 24 → am_okE 137 (312 + j) (am_nth am_c137 (312 + j) (0, .nop, 0, 0, 0, [])) = true := by decide +kernel
theorem am_okw336 : ∀ j, j < 24 → am_okE 137 (336 + j) (am_nth am_c137 (336 + j) (0, .nop, 0, 0, 0, [])) = true := by decide +kernel
theorem am_okw360 : ∀ j, j < 24 → am_okE 137 (360 + j) (am_nth am_c137 (360 + j) (0, .nop, 0, 0, 0, [])) = true := by decide +kernel
theorem am_okw384 : ∀ j, j < 24 → am_okE 137 (384 + j) (am_nth am_c137 (384 + j) (0, .nop, 0, 0, 0, [])) = true := by decide +kernel
theorem am_okw408 : ∀ j, j < 24 → am_okE 137 (408 + j) (am_nth am_c137 (408 + j) (0, .nop, 0, 0, 0, [])) = true := by decide +kernel
theorem am_okw432 : ∀ j, j < 24 → am_okE 137 (432 + j) (am_nth am_c137 (432 + j) (0, .nop, 0, 0, 0, [])) = true := by decide +kernel
theorem am_okw456 : ∀ j, j < 24 → am_okE 137 (456 + j) (am_nth am_c137 (456 + j) (0, .nop, 0, 0, 0, [])) = true := by decide +kernel
theorem am_okw480 : ∀ j, j < 24 → am_okE 137 (480 + j) (am_nth am_c137 (480 + j) (0, .nop, 0, 0, 0, [])) = true := by decide +kernel
theorem am_okw504 : ∀ j, j < 24 → am_okE 137 (504 + j) (am_nth am_c137 (504 + j) (0, .nop, 0, 0, 0, [])) = true := by decide +kernel
theorem am_okw528 : ∀ j, j < 24 → am_okE 137 (528 + j) (am_nth am_c137 (528 + j) (0, .nop, 0, 0, 0, [])) = true := by decide +kernel
theorem am_okw552 : ∀ j, j < 24 → am_okE 137 (552 + j) (am_nth am_c137 (552 + j) (0, .nop, 0, 0, 0, [])) = true := by decide +kernel
theorem am_okw576 : ∀ j, j < 24 → am_okE 137 (576 + j) (am_nth am_c137 (576 + j) (0, .nop, 0, 0, 0, [])) = true := by decide +kernel
theorem am_okw600 : ∀ j, j < 24 → am_okE 137 (600 + j) (am_nth am_c137 (600 + j) (0, .nop, 0, 0, 0, [])) = true := by decide +kernel
theorem am_okw624 : ∀ j, j < 24 → am_okE 137 (624 + j) (am_nth am_c137 (624 + j) (0, .nop, 0, 0, 0, [])) = true := by decide +kernel
theorem am_okw648 : ∀ j, j < 23 → am_okE 137 (648 + j) (am_nth am_c137 (648 + j) (0, .nop, 0, 0, 0, [])) = true := by decide +kernel
theorem am_okw : ∀ i, i < 671 → am_okE 137 i (am_nth am_c137 i (0, .nop, 0, 0, 0, [])) = true := by
  intro i h
  rcases Nat.lt_or_ge i 24 with q | q
  · have z := am_okw0 (i - 0) (by omega)
    rw [show 0 + (i - 0) = i by omega] at z; exact z
  rcases Nat.lt_or_ge i 48 with q | q
  · have z := am_okw24 (i - 24) (by omega)
    rw [show 24 + (i - 24) = i by omega] at z; exact z
  rcases Nat.lt_or_ge i 72 with q | q
  · have z := am_okw48 (i - 48) (by omega)
    rw [show 48 + (i - 48) = i by omega] at z; exact z
  rcases Nat.lt_or_ge i 96 with q | q
  · have z := am_okw72 (i - 72) (by omega)
    rw [show 72 + (i - 72) = i by omega] at z; exact z
  rcases Nat.lt_or_ge i 120 with q | q
  · have z := am_okw96 (i - 96) (by omega)
    rw [show 96 + (i - 96) = i by omega] at z; exact z
  rcases Nat.lt_or_ge i 144 with q | q
  · have z := am_okw120 (i - 120) (by omega)
    rw [show 120 + (i - 120) = i by omega] at z; exact z
  rcases Nat.lt_or_ge i 168 with q | q
  · have z := am_okw144 (i - 144) (by omega)
    rw [show 144 + (i - 144) = i by omega] at z; exact z
  rcases Nat.lt_or_ge i 192 with q | q
  · have z := am_okw168 (i - 168) (by omega)
    rw [show 168 + (i - 168) = i by omega] at z; exact z
  rcases Nat.lt_or_ge i 216 with q | q
  · have z := am_okw192 (i - 192) (by omega)
    rw [show 192 + (i - 192) = i by omega] at z; exact z
  rcases Nat.lt_or_ge i 240 with q | q
  · have z := am_okw216 (i - 216) (by omega)
    rw [show 216 + (i - 216) = i by omega] at z; exact z
  rcases Nat.lt_or_ge i 264 with q | q
  · have z := am_okw240 (i - 240) (by omega)
    rw [show 240 + (i - 240) = i by omega] at z; exact z
  rcases Nat.lt_or_ge i 288 with q | q
  · have z := am_okw264 (i - 264) (by omega)
    rw [show 264 + (i - 264) = i by omega] at z; exact z
  rcases Nat.lt_or_ge i 312 with q | q
  · have z := am_okw288 (i - 288) (by omega)
    rw [show 288 + (i - 288) = i by omega] at z; exact z
  rcases Nat.lt_or_ge i 336 with q | q
  · have z := am_okw312 (i - 312) (by omega)
    rw [show 312 + (i - 312) = i by omega] at z; exact z
  rcases Nat.lt_or_ge i 360 with q | q
  · have z := am_okw336 (i - 336) (by omega)
    rw [show 336 + (i - 336) = i by omega] at z; exact z
  rcases Nat.lt_or_ge i 384 with q | q
  · have z := am_okw360 (i - 360) (by omega)
    rw [show 360 + (i - 360) = i by omega] at z; exact z
  rcases Nat.lt_or_ge i 408 with q | q
  · have z := am_okw384 (i - 384) (by omega)
    rw [show 384 + (i - 384) = i by omega] at z; exact z
  rcases Nat.lt_or_ge i 432 with q | q
  · have z := am_okw408 (i - 408) (by omega)
    rw [show 408 + (i - 408) = i by omega] at z; exact z
  rcases Nat.lt_or_ge i 456 with q | q
  · have z := am_okw432 (i - 432) (by omega)
    rw [show 432 + (i - 432) = i by omega] at z; exact z
  rcases Nat.lt_or_ge i 480 with q | q
  · have z := am_okw456 (i - 456) (by omega)
    rw [show 456 + (i - 456) = i by omega] at z; exact z
  rcases Nat.lt_or_ge i 504 with q | q
  · have z := am_okw480 (i - 480) (by omega)
    rw [show 480 + (i - 480) = i by omega] at z; exact z
  rcases Nat.lt_or_ge i 528 with q | q
  · have z := am_okw504 (i - 504) (by omega)
    rw [show 504 + (i - 504) = i by omega] at z; exact z
  rcases Nat.lt_or_ge i 552 with q | q
  · have z := am_okw528 (i - 528) (by omega)
    rw [show 528 + (i - 528) = i by omega] at z; exact z
  rcases Nat.lt_or_ge i 576 with q | q
  · have z := am_okw552 (i - 552) (by omega)
    rw [show 552 + (i - 552) = i by omega] at z; exact z
  rcases Nat.lt_or_ge i 600 with q | q
  · have z := am_okw576 (i - 576) (by omega)
    rw [show 576 + (i - 576) = i by omega] at z; exact z
  rcases Nat.lt_or_ge i 624 with q | q
  · have z := am_okw600 (i - 600) (by omega)
    rw [show 600 + (i - 600) = i by omega] at z; exact z
  rcases Nat.lt_or_ge i 648 with q | q
  · have z := am_okw624 (i - 624) (by omega)
    rw [show 624 + (i - 624) = i by omega] at z; exact z
  rcases Nat.lt_or_ge i 671 with q | q
  · have z := am_okw648 (i - 648) (by omega)
    rw [show 648 + (i - 648) = i by omega] at z; exact z
  omega
