/-! what makes the reader -/
theorem kc6_a : ∀ q, q < 22 → kd (321 + q) = kd (321 + q) := fun _ _ => rfl
theorem kc6_b : ∀ q, q < 22 → kd (345 + q) = kd (321 + q) := by decide +kernel
theorem kc6_c : ∀ q, q < 22 → kd (368 + q) = kd (321 + q) := by decide +kernel
def w00 : Wd := zW (0, rfS)
def w01 : Wd := uW (wX3 (zW w00) 1) 0 0 (some 1)
def w02 : Wd := wP4 3 (zW w01)
def w03 : Wd := wP4 159 (zW w02)
def w04 : Wd := uW (wX9 (zW w03) 315) 0 3 (some 315)
def w05 : Wd := uW (wX1 (zW w04) 317) 0 4 (some 317)
def w06 : Wd := uW (wX6 (zW w05) 320) 0 5 (some 320)
def w07 : Wd := uW (wX6 (zW (zW w06)) 344) 343 0 (some 344)
def w08 : Wd := uW (wX6 (zW w07) 367) 343 1 (some 367)
def w09 : Wd := uW w08 0 6 (some 343)
theorem w01_1 : w01.1 = 3 := by decide +kernel
theorem w02_1 : w02.1 = 159 := by decide +kernel
theorem w03_1 : w03.1 = 315 := by decide +kernel
theorem w09_1 : w09.1 = 390 := by decide +kernel
theorem w09_c : ∀ i, i < 390 → ∀ k, k < 60 → fnK i k = true → rfS i k = w09.2 i k := by decide +kernel
