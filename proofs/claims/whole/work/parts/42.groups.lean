def JB (s : mSt) : Prop := (s 183 11 = s 35 1 ∧ bd (s 35 1) 0 999) ∧ (s 183 41 = s 35 2 ∧ bd (s 35 2) 0 8)
def cB1 : List Nat := [35, 36, 37, 38, 39, 40, 41, 42, 209, 210, 211, 212, 213, 214, 215]
def kB1 : List Nat := [11, 41]
theorem JB_fr {s s' : mSt} (h : Fr cB1 kB1 s s') (hJ : JB s) : JB s' := by
  have g : ∀ a, cB1.contains a = true → s' a = s a := fun a ha => h.1 a (by simpa using ha)
  have k : ∀ a, kB1.contains a = true → s' 183 a = s 183 a := fun a ha => h.2 a (by simpa using ha)
  unfold JB
  rw [g 35 rfl, k 11 rfl, k 41 rfl]
  exact hJ
def JD (s : mSt) : Prop := (s 183 27 = s 43 3 ∧ bd (s 43 3) 0 12) ∧ (s 198 = s 44 ∧ s 199 = s 45 ∧ s 200 = s 46) ∧ ∀ j : Nat, (j : Int) < (s 43 3).toInt → (bd (s 44 j) 0 7 ∧ bd (s 45 j) 0 7 ∧ s 44 j ≠ s 45 j) ∧ bd (s 46 j) 0 99
def cD1 : List Nat := [43, 44, 45, 46, 198, 199, 200]
def kD1 : List Nat := [27]
theorem JD_fr {s s' : mSt} (h : Fr cD1 kD1 s s') (hJ : JD s) : JD s' := by
  have g : ∀ a, cD1.contains a = true → s' a = s a := fun a ha => h.1 a (by simpa using ha)
  have k : ∀ a, kD1.contains a = true → s' 183 a = s 183 a := fun a ha => h.2 a (by simpa using ha)
  unfold JD
  rw [g 43 rfl, g 44 rfl, g 45 rfl, g 46 rfl, g 198 rfl, g 199 rfl, g 200 rfl, k 27 rfl]
  exact hJ
def JF (s : mSt) : Prop := (s 183 49 = s 129 3 ∧ bd (s 129 3) 0 3) ∧ (s 216 = s 130 ∧ s 217 = s 131 ∧ s 218 = s 132 ∧ s 219 = s 133 ∧ s 220 = s 134)
def cF1 : List Nat := [129, 130, 131, 132, 133, 134, 216, 217, 218, 219, 220]
def kF1 : List Nat := [49]
theorem JF_fr {s s' : mSt} (h : Fr cF1 kF1 s s') (hJ : JF s) : JF s' := by
  have g : ∀ a, cF1.contains a = true → s' a = s a := fun a ha => h.1 a (by simpa using ha)
  have k : ∀ a, kF1.contains a = true → s' 183 a = s 183 a := fun a ha => h.2 a (by simpa using ha)
  unfold JF
  rw [g 129 rfl, g 130 rfl, g 131 rfl, g 132 rfl, g 133 rfl, g 134 rfl, g 216 rfl, g 217 rfl, g 218 rfl, g 219 rfl, g 220 rfl, k 49 rfl]
  exact hJ
def JP (s : mSt) : Prop := (s 183 67 = s 166 3 ∧ bd (s 166 3) 0 8) ∧ (s 231 = s 167 ∧ s 232 = s 168 ∧ s 233 = s 169) ∧ ∀ j : Nat, (j : Int) < (s 166 3).toInt → (bd (s 167 j) 0 7 ∧ bd (s 168 j) 0 7 ∧ s 167 j ≠ s 168 j) ∧ bd (s 169 j) 1 999
def cP1 : List Nat := [166, 167, 168, 169, 231, 232, 233]
def kP1 : List Nat := [67]
theorem JP_fr {s s' : mSt} (h : Fr cP1 kP1 s s') (hJ : JP s) : JP s' := by
  have g : ∀ a, cP1.contains a = true → s' a = s a := fun a ha => h.1 a (by simpa using ha)
  have k : ∀ a, kP1.contains a = true → s' 183 a = s 183 a := fun a ha => h.2 a (by simpa using ha)
  unfold JP
  rw [g 166 rfl, g 167 rfl, g 168 rfl, g 169 rfl, g 231 rfl, g 232 rfl, g 233 rfl, k 67 rfl]
  exact hJ
def JR (s : mSt) : Prop := (s 183 15 = s 1 2 ∧ bd (s 1 2) 0 8) ∧ s 192 = s 2 ∧ ∀ i k : Nat, i < 8 → (i : Int) < (s 1 2).toInt → k < 6 → s (4 + i) k = s 195 (6 * i + k)
def cR1 : List Nat := [1, 2, 4, 5, 6, 7, 8, 9, 10, 11, 192, 195]
def kR1 : List Nat := [15]
theorem JR_fr {s s' : mSt} (h : Fr cR1 kR1 s s') (hJ : JR s) : JR s' := by
  have g : ∀ a, cR1.contains a = true → s' a = s a := fun a ha => h.1 a (by simpa using ha)
  have k : ∀ a, kR1.contains a = true → s' 183 a = s 183 a := fun a ha => h.2 a (by simpa using ha)
  unfold JR
  rw [g 1 rfl, g 2 rfl, g 192 rfl, g 195 rfl, k 15 rfl]
  refine ⟨hJ.1, hJ.2.1, fun i q hi hn hq => ?_⟩
  rw [← hJ.2.2 i q hi hn hq]
  match i, hi with
  | 0, _ => rw [g (4 + 0) rfl]
  | 1, _ => rw [g (4 + 1) rfl]
  | 2, _ => rw [g (4 + 2) rfl]
  | 3, _ => rw [g (4 + 3) rfl]
  | 4, _ => rw [g (4 + 4) rfl]
  | 5, _ => rw [g (4 + 5) rfl]
  | 6, _ => rw [g (4 + 6) rfl]
  | 7, _ => rw [g (4 + 7) rfl]
  | n + 8, h => exact absurd h (by omega)
def JS (s : mSt) : Prop := (s 235 = s 177 ∧ ∀ i : Nat, i < 4 → bd (s 177 i) 0 40 ∧ ((s 176 i = -1 ∧ s 234 i = -4) ∨ (s 234 i = s 176 i ∧ bd (s 176 i) 0 2))) ∧ ∀ i k : Nat, i < 4 → k < 40 → s (179 + i) k = s 236 (40 * i + k)
def cS1 : List Nat := [176, 177, 179, 180, 181, 182, 234, 235, 236]
def kS1 : List Nat := []
theorem JS_fr {s s' : mSt} (h : Fr cS1 kS1 s s') (hJ : JS s) : JS s' := by
  have g : ∀ a, cS1.contains a = true → s' a = s a := fun a ha => h.1 a (by simpa using ha)
  unfold JS
  rw [g 176 rfl, g 177 rfl, g 234 rfl, g 235 rfl, g 236 rfl]
  refine ⟨hJ.1, fun i q hi hq => ?_⟩
  rw [← hJ.2 i q hi hq]
  match i, hi with
  | 0, _ => rw [g (179 + 0) rfl]
  | 1, _ => rw [g (179 + 1) rfl]
  | 2, _ => rw [g (179 + 2) rfl]
  | 3, _ => rw [g (179 + 3) rfl]
  | n + 4, h => exact absurd h (by omega)
def JT (s : mSt) : Prop := (s 183 20 = s 12 2 ∧ bd (s 12 2) 0 240) ∧ s 183 25 = s 12 3 ∧ s 197 = s 13 ∧ ∀ j : Nat, bd (s 13 j) 0 255
def cT1 : List Nat := [12, 13, 197]
def kT1 : List Nat := [20, 25]
theorem JT_fr {s s' : mSt} (h : Fr cT1 kT1 s s') (hJ : JT s) : JT s' := by
  have g : ∀ a, cT1.contains a = true → s' a = s a := fun a ha => h.1 a (by simpa using ha)
  have k : ∀ a, kT1.contains a = true → s' 183 a = s 183 a := fun a ha => h.2 a (by simpa using ha)
  unfold JT
  rw [g 12 rfl, g 13 rfl, g 197 rfl, k 20 rfl, k 25 rfl]
  exact hJ
def JU (s : mSt) : Prop := (bd (s 2 0) 0 999 ∧ bd (s 2 1) 0 999 ∧ bd (s 2 2) 0 20 ∧ bd (s 2 3) 0 20 ∧ bd (s 2 4) 0 20 ∧ bd (s 2 5) 1 50 ∧ bd (s 2 6) 1 20 ∧ bd (s 2 7) 1 20) ∧ ∀ i : Nat, (i : Int) < (s 1 2).toInt → bd (s 195 (6 * i)) 0 5 ∧ bd (s 195 (6 * i + 1)) 0 11 ∧ bd (s 195 (6 * i + 3)) 0 998 ∧ bd (s 195 (6 * i + 4)) 0 999 ∧ bd (s 195 (6 * i + 5)) 0 99
def cU1 : List Nat := [1, 2, 195]
def kU1 : List Nat := []
theorem JU_fr {s s' : mSt} (h : Fr cU1 kU1 s s') (hJ : JU s) : JU s' := by
  have g : ∀ a, cU1.contains a = true → s' a = s a := fun a ha => h.1 a (by simpa using ha)
  have k : ∀ a, kU1.contains a = true → s' 183 a = s 183 a := fun a ha => h.2 a (by simpa using ha)
  unfold JU
  rw [g 1 rfl, g 2 rfl, g 195 rfl]
  exact hJ
def JZ (s : mSt) : Prop := ∀ j : Nat, (j : Int) < (s 129 3).toInt → (bd (s 130 j) 0 99 ∧ bd (s 131 j) 0 99) ∧ bd (s 132 j) 0 99 ∧ bd (s 133 j) 0 3 ∧ 0 ≤ (s 134 j).toInt ∧ 3 * (s 134 j).toInt + 237 * (s 132 j).toInt ≤ 26460
def cZ1 : List Nat := [129, 130, 131, 132, 133, 134]
def kZ1 : List Nat := []
theorem JZ_fr {s s' : mSt} (h : Fr cZ1 kZ1 s s') (hJ : JZ s) : JZ s' := by
  have g : ∀ a, cZ1.contains a = true → s' a = s a := fun a ha => h.1 a (by simpa using ha)
  have k : ∀ a, kZ1.contains a = true → s' 183 a = s 183 a := fun a ha => h.2 a (by simpa using ha)
  unfold JZ
  rw [g 129 rfl, g 130 rfl, g 131 rfl, g 132 rfl, g 133 rfl, g 134 rfl]
  exact hJ
def JX (s : mSt) : Prop := (∀ j : Nat, (j : Int) < (s 43 3).toInt → (s 44 j).toInt < (s 25 2).toInt ∧ (s 45 j).toInt < (s 25 2).toInt) ∧ ∀ j : Nat, (j : Int) < (s 166 3).toInt → (s 167 j).toInt < (s 25 2).toInt ∧ (s 168 j).toInt < (s 25 2).toInt
def cX1 : List Nat := [25, 43, 44, 45, 166, 167, 168]
def kX1 : List Nat := []
theorem JX_fr {s s' : mSt} (h : Fr cX1 kX1 s s') (hJ : JX s) : JX s' := by
  have g : ∀ a, cX1.contains a = true → s' a = s a := fun a ha => h.1 a (by simpa using ha)
  have k : ∀ a, kX1.contains a = true → s' 183 a = s 183 a := fun a ha => h.2 a (by simpa using ha)
  unfold JX
  rw [g 25 rfl, g 43 rfl, g 44 rfl, g 45 rfl, g 166 rfl, g 167 rfl, g 168 rfl]
  exact hJ
def JY (s : mSt) : Prop := (s 209 = s 36 ∧ s 210 = s 37 ∧ s 211 = s 38 ∧ s 212 = s 39 ∧ s 213 = s 40) ∧ ∀ j : Nat, (j : Int) < (s 35 2).toInt → (bd (s 36 j) 0 ((s 25 5).toInt - 1) ∧ bd (s 37 j) 0 (s 35 1).toInt ∧ bd (s 38 j) 0 999) ∧ (0 ≤ (s 39 j).toInt ∧ (s 39 j).toInt ≤ (s 40 j).toInt ∧ (s 40 j).toInt ≤ (s 34 (s 36 j).toNatClampNeg).toInt) ∧ ((s 41 j = 1000000 ∧ s 214 j = -4 ∧ s 42 j = -1 ∧ s 215 j = -4) ∨ (s 214 j = s 41 j ∧ bd (s 41 j) 1 9999 ∧ (s 37 j).toInt < (s 41 j).toInt ∧ s 215 j = s 42 j ∧ bd (s 42 j) 0 2))
def cY1 : List Nat := [25, 34, 35, 36, 37, 38, 39, 40, 41, 42, 209, 210, 211, 212, 213, 214, 215]
def kY1 : List Nat := []
theorem JY_fr {s s' : mSt} (h : Fr cY1 kY1 s s') (hJ : JY s) : JY s' := by
  have g : ∀ a, cY1.contains a = true → s' a = s a := fun a ha => h.1 a (by simpa using ha)
  have k : ∀ a, kY1.contains a = true → s' 183 a = s 183 a := fun a ha => h.2 a (by simpa using ha)
  unfold JY
  rw [g 25 rfl, g 34 rfl, g 35 rfl, g 36 rfl, g 37 rfl, g 38 rfl, g 39 rfl, g 40 rfl, g 41 rfl, g 42 rfl, g 209 rfl, g 210 rfl, g 211 rfl, g 212 rfl, g 213 rfl, g 214 rfl, g 215 rfl]
  exact hJ
def J (s : mSt) : Prop := JN s ∧ JB s ∧ JD s ∧ JF s ∧ JP s ∧ JR s ∧ JS s ∧ JT s ∧ JU s ∧ JZ s ∧ JX s ∧ JY s
theorem J_N {s : mSt} (hJ : J s) : JN s := hJ.1
theorem J_B {s : mSt} (hJ : J s) : JB s := hJ.2.1
theorem J_D {s : mSt} (hJ : J s) : JD s := hJ.2.2.1
theorem J_F {s : mSt} (hJ : J s) : JF s := hJ.2.2.2.1
theorem J_P {s : mSt} (hJ : J s) : JP s := hJ.2.2.2.2.1
theorem J_R {s : mSt} (hJ : J s) : JR s := hJ.2.2.2.2.2.1
theorem J_S {s : mSt} (hJ : J s) : JS s := hJ.2.2.2.2.2.2.1
theorem J_T {s : mSt} (hJ : J s) : JT s := hJ.2.2.2.2.2.2.2.1
theorem J_U {s : mSt} (hJ : J s) : JU s := hJ.2.2.2.2.2.2.2.2.1
theorem J_Z {s : mSt} (hJ : J s) : JZ s := hJ.2.2.2.2.2.2.2.2.2.1
theorem J_X {s : mSt} (hJ : J s) : JX s := hJ.2.2.2.2.2.2.2.2.2.2.1
theorem J_Y {s : mSt} (hJ : J s) : JY s := hJ.2.2.2.2.2.2.2.2.2.2.2
theorem Fr_sub {l ks l' ks' : List Nat} {s s' : mSt} (h : Fr l ks s s') (h1 : ∀ a ∈ l', a ∈ l) (h2 : ∀ a ∈ ks', a ∈ ks) : Fr l' ks' s s' := ⟨fun a ha => h.1 a (h1 a ha), fun a ha => h.2 a (h2 a ha)⟩
def uN : List Nat := [35, 36, 37, 38, 39, 40, 41, 42, 209, 210, 211, 212, 213, 214, 215, 43, 44, 45, 46, 198, 199, 200, 129, 130, 131, 132, 133, 134, 216, 217, 218, 219, 220, 166, 167, 168, 169, 231, 232, 233, 1, 2, 4, 5, 6, 7, 8, 9, 10, 11, 192, 195, 176, 177, 179, 180, 181, 182, 234, 235, 236, 12, 13, 197]
def vN : List Nat := [11, 41, 27, 49, 67, 15, 20, 25]
theorem J_butN {s s' : mSt} (h : Fr uN vN s s') (hJ : J s) (hN : JN s') (hX : JX s') (hY : JY s') : J s' := ⟨hN, JB_fr (Fr_sub h (by decide) (by decide)) hJ.2.1, JD_fr (Fr_sub h (by decide) (by decide)) hJ.2.2.1, JF_fr (Fr_sub h (by decide) (by decide)) hJ.2.2.2.1, JP_fr (Fr_sub h (by decide) (by decide)) hJ.2.2.2.2.1, JR_fr (Fr_sub h (by decide) (by decide)) hJ.2.2.2.2.2.1, JS_fr (Fr_sub h (by decide) (by decide)) hJ.2.2.2.2.2.2.1, JT_fr (Fr_sub h (by decide) (by decide)) hJ.2.2.2.2.2.2.2.1, JU_fr (Fr_sub h (by decide) (by decide)) hJ.2.2.2.2.2.2.2.2.1, JZ_fr (Fr_sub h (by decide) (by decide)) hJ.2.2.2.2.2.2.2.2.2.1, hX, hY⟩
def uB : List Nat := [25, 26, 27, 28, 29, 30, 31, 32, 33, 34, 184, 185, 186, 187, 188, 189, 190, 191, 43, 44, 45, 46, 198, 199, 200, 129, 130, 131, 132, 133, 134, 216, 217, 218, 219, 220, 166, 167, 168, 169, 231, 232, 233, 1, 2, 4, 5, 6, 7, 8, 9, 10, 11, 192, 195, 176, 177, 179, 180, 181, 182, 234, 235, 236, 12, 13, 197]
def vB : List Nat := [0, 3, 10, 27, 49, 67, 15, 20, 25]
theorem J_butB {s s' : mSt} (h : Fr uB vB s s') (hJ : J s) (hB : JB s') (hY : JY s') : J s' := ⟨JN_fr (Fr_sub h (by decide) (by decide)) hJ.1, hB, JD_fr (Fr_sub h (by decide) (by decide)) hJ.2.2.1, JF_fr (Fr_sub h (by decide) (by decide)) hJ.2.2.2.1, JP_fr (Fr_sub h (by decide) (by decide)) hJ.2.2.2.2.1, JR_fr (Fr_sub h (by decide) (by decide)) hJ.2.2.2.2.2.1, JS_fr (Fr_sub h (by decide) (by decide)) hJ.2.2.2.2.2.2.1, JT_fr (Fr_sub h (by decide) (by decide)) hJ.2.2.2.2.2.2.2.1, JU_fr (Fr_sub h (by decide) (by decide)) hJ.2.2.2.2.2.2.2.2.1, JZ_fr (Fr_sub h (by decide) (by decide)) hJ.2.2.2.2.2.2.2.2.2.1, JX_fr (Fr_sub h (by decide) (by decide)) hJ.2.2.2.2.2.2.2.2.2.2.1, hY⟩
def uD : List Nat := [25, 26, 27, 28, 29, 30, 31, 32, 33, 34, 184, 185, 186, 187, 188, 189, 190, 191, 35, 36, 37, 38, 39, 40, 41, 42, 209, 210, 211, 212, 213, 214, 215, 129, 130, 131, 132, 133, 134, 216, 217, 218, 219, 220, 166, 167, 168, 169, 231, 232, 233, 1, 2, 4, 5, 6, 7, 8, 9, 10, 11, 192, 195, 176, 177, 179, 180, 181, 182, 234, 235, 236, 12, 13, 197]
def vD : List Nat := [0, 3, 10, 11, 41, 49, 67, 15, 20, 25]
theorem J_butD {s s' : mSt} (h : Fr uD vD s s') (hJ : J s) (hD : JD s') (hX : JX s') : J s' := ⟨JN_fr (Fr_sub h (by decide) (by decide)) hJ.1, JB_fr (Fr_sub h (by decide) (by decide)) hJ.2.1, hD, JF_fr (Fr_sub h (by decide) (by decide)) hJ.2.2.2.1, JP_fr (Fr_sub h (by decide) (by decide)) hJ.2.2.2.2.1, JR_fr (Fr_sub h (by decide) (by decide)) hJ.2.2.2.2.2.1, JS_fr (Fr_sub h (by decide) (by decide)) hJ.2.2.2.2.2.2.1, JT_fr (Fr_sub h (by decide) (by decide)) hJ.2.2.2.2.2.2.2.1, JU_fr (Fr_sub h (by decide) (by decide)) hJ.2.2.2.2.2.2.2.2.1, JZ_fr (Fr_sub h (by decide) (by decide)) hJ.2.2.2.2.2.2.2.2.2.1, hX, JY_fr (Fr_sub h (by decide) (by decide)) hJ.2.2.2.2.2.2.2.2.2.2.2⟩
def uF : List Nat := [25, 26, 27, 28, 29, 30, 31, 32, 33, 34, 184, 185, 186, 187, 188, 189, 190, 191, 35, 36, 37, 38, 39, 40, 41, 42, 209, 210, 211, 212, 213, 214, 215, 43, 44, 45, 46, 198, 199, 200, 166, 167, 168, 169, 231, 232, 233, 1, 2, 4, 5, 6, 7, 8, 9, 10, 11, 192, 195, 176, 177, 179, 180, 181, 182, 234, 235, 236, 12, 13, 197]
def vF : List Nat := [0, 3, 10, 11, 41, 27, 67, 15, 20, 25]
theorem J_butF {s s' : mSt} (h : Fr uF vF s s') (hJ : J s) (hF : JF s') (hZ : JZ s') : J s' := ⟨JN_fr (Fr_sub h (by decide) (by decide)) hJ.1, JB_fr (Fr_sub h (by decide) (by decide)) hJ.2.1, JD_fr (Fr_sub h (by decide) (by decide)) hJ.2.2.1, hF, JP_fr (Fr_sub h (by decide) (by decide)) hJ.2.2.2.2.1, JR_fr (Fr_sub h (by decide) (by decide)) hJ.2.2.2.2.2.1, JS_fr (Fr_sub h (by decide) (by decide)) hJ.2.2.2.2.2.2.1, JT_fr (Fr_sub h (by decide) (by decide)) hJ.2.2.2.2.2.2.2.1, JU_fr (Fr_sub h (by decide) (by decide)) hJ.2.2.2.2.2.2.2.2.1, hZ, JX_fr (Fr_sub h (by decide) (by decide)) hJ.2.2.2.2.2.2.2.2.2.2.1, JY_fr (Fr_sub h (by decide) (by decide)) hJ.2.2.2.2.2.2.2.2.2.2.2⟩
def uP : List Nat := [25, 26, 27, 28, 29, 30, 31, 32, 33, 34, 184, 185, 186, 187, 188, 189, 190, 191, 35, 36, 37, 38, 39, 40, 41, 42, 209, 210, 211, 212, 213, 214, 215, 43, 44, 45, 46, 198, 199, 200, 129, 130, 131, 132, 133, 134, 216, 217, 218, 219, 220, 1, 2, 4, 5, 6, 7, 8, 9, 10, 11, 192, 195, 176, 177, 179, 180, 181, 182, 234, 235, 236, 12, 13, 197]
def vP : List Nat := [0, 3, 10, 11, 41, 27, 49, 15, 20, 25]
theorem J_butP {s s' : mSt} (h : Fr uP vP s s') (hJ : J s) (hP : JP s') (hX : JX s') : J s' := ⟨JN_fr (Fr_sub h (by decide) (by decide)) hJ.1, JB_fr (Fr_sub h (by decide) (by decide)) hJ.2.1, JD_fr (Fr_sub h (by decide) (by decide)) hJ.2.2.1, JF_fr (Fr_sub h (by decide) (by decide)) hJ.2.2.2.1, hP, JR_fr (Fr_sub h (by decide) (by decide)) hJ.2.2.2.2.2.1, JS_fr (Fr_sub h (by decide) (by decide)) hJ.2.2.2.2.2.2.1, JT_fr (Fr_sub h (by decide) (by decide)) hJ.2.2.2.2.2.2.2.1, JU_fr (Fr_sub h (by decide) (by decide)) hJ.2.2.2.2.2.2.2.2.1, JZ_fr (Fr_sub h (by decide) (by decide)) hJ.2.2.2.2.2.2.2.2.2.1, hX, JY_fr (Fr_sub h (by decide) (by decide)) hJ.2.2.2.2.2.2.2.2.2.2.2⟩
def uR : List Nat := [25, 26, 27, 28, 29, 30, 31, 32, 33, 34, 184, 185, 186, 187, 188, 189, 190, 191, 35, 36, 37, 38, 39, 40, 41, 42, 209, 210, 211, 212, 213, 214, 215, 43, 44, 45, 46, 198, 199, 200, 129, 130, 131, 132, 133, 134, 216, 217, 218, 219, 220, 166, 167, 168, 169, 231, 232, 233, 176, 177, 179, 180, 181, 182, 234, 235, 236]
def vR : List Nat := [0, 3, 10, 11, 41, 27, 49, 67]
theorem J_butR {s s' : mSt} (h : Fr uR vR s s') (hJ : J s) (hR : JR s') (hT : JT s') (hU : JU s') : J s' := ⟨JN_fr (Fr_sub h (by decide) (by decide)) hJ.1, JB_fr (Fr_sub h (by decide) (by decide)) hJ.2.1, JD_fr (Fr_sub h (by decide) (by decide)) hJ.2.2.1, JF_fr (Fr_sub h (by decide) (by decide)) hJ.2.2.2.1, JP_fr (Fr_sub h (by decide) (by decide)) hJ.2.2.2.2.1, hR, JS_fr (Fr_sub h (by decide) (by decide)) hJ.2.2.2.2.2.2.1, hT, hU, JZ_fr (Fr_sub h (by decide) (by decide)) hJ.2.2.2.2.2.2.2.2.2.1, JX_fr (Fr_sub h (by decide) (by decide)) hJ.2.2.2.2.2.2.2.2.2.2.1, JY_fr (Fr_sub h (by decide) (by decide)) hJ.2.2.2.2.2.2.2.2.2.2.2⟩
def uS : List Nat := [25, 26, 27, 28, 29, 30, 31, 32, 33, 34, 184, 185, 186, 187, 188, 189, 190, 191, 35, 36, 37, 38, 39, 40, 41, 42, 209, 210, 211, 212, 213, 214, 215, 43, 44, 45, 46, 198, 199, 200, 129, 130, 131, 132, 133, 134, 216, 217, 218, 219, 220, 166, 167, 168, 169, 231, 232, 233, 1, 2, 4, 5, 6, 7, 8, 9, 10, 11, 192, 195, 12, 13, 197]
def vS : List Nat := [0, 3, 10, 11, 41, 27, 49, 67, 15, 20, 25]
theorem J_butS {s s' : mSt} (h : Fr uS vS s s') (hJ : J s) (hS : JS s') : J s' := ⟨JN_fr (Fr_sub h (by decide) (by decide)) hJ.1, JB_fr (Fr_sub h (by decide) (by decide)) hJ.2.1, JD_fr (Fr_sub h (by decide) (by decide)) hJ.2.2.1, JF_fr (Fr_sub h (by decide) (by decide)) hJ.2.2.2.1, JP_fr (Fr_sub h (by decide) (by decide)) hJ.2.2.2.2.1, JR_fr (Fr_sub h (by decide) (by decide)) hJ.2.2.2.2.2.1, hS, JT_fr (Fr_sub h (by decide) (by decide)) hJ.2.2.2.2.2.2.2.1, JU_fr (Fr_sub h (by decide) (by decide)) hJ.2.2.2.2.2.2.2.2.1, JZ_fr (Fr_sub h (by decide) (by decide)) hJ.2.2.2.2.2.2.2.2.2.1, JX_fr (Fr_sub h (by decide) (by decide)) hJ.2.2.2.2.2.2.2.2.2.2.1, JY_fr (Fr_sub h (by decide) (by decide)) hJ.2.2.2.2.2.2.2.2.2.2.2⟩
def uT : List Nat := [25, 26, 27, 28, 29, 30, 31, 32, 33, 34, 184, 185, 186, 187, 188, 189, 190, 191, 35, 36, 37, 38, 39, 40, 41, 42, 209, 210, 211, 212, 213, 214, 215, 43, 44, 45, 46, 198, 199, 200, 129, 130, 131, 132, 133, 134, 216, 217, 218, 219, 220, 166, 167, 168, 169, 231, 232, 233, 1, 2, 4, 5, 6, 7, 8, 9, 10, 11, 192, 195, 176, 177, 179, 180, 181, 182, 234, 235, 236]
def vT : List Nat := [0, 3, 10, 11, 41, 27, 49, 67, 15]
theorem J_butT {s s' : mSt} (h : Fr uT vT s s') (hJ : J s) (hT : JT s') : J s' := ⟨JN_fr (Fr_sub h (by decide) (by decide)) hJ.1, JB_fr (Fr_sub h (by decide) (by decide)) hJ.2.1, JD_fr (Fr_sub h (by decide) (by decide)) hJ.2.2.1, JF_fr (Fr_sub h (by decide) (by decide)) hJ.2.2.2.1, JP_fr (Fr_sub h (by decide) (by decide)) hJ.2.2.2.2.1, JR_fr (Fr_sub h (by decide) (by decide)) hJ.2.2.2.2.2.1, JS_fr (Fr_sub h (by decide) (by decide)) hJ.2.2.2.2.2.2.1, hT, JU_fr (Fr_sub h (by decide) (by decide)) hJ.2.2.2.2.2.2.2.2.1, JZ_fr (Fr_sub h (by decide) (by decide)) hJ.2.2.2.2.2.2.2.2.2.1, JX_fr (Fr_sub h (by decide) (by decide)) hJ.2.2.2.2.2.2.2.2.2.2.1, JY_fr (Fr_sub h (by decide) (by decide)) hJ.2.2.2.2.2.2.2.2.2.2.2⟩
def uG : List Nat := [25, 26, 27, 28, 29, 30, 31, 32, 33, 34, 184, 185, 186, 187, 188, 189, 190, 191, 43, 44, 45, 46, 198, 199, 200, 166, 167, 168, 169, 231, 232, 233, 1, 2, 4, 5, 6, 7, 8, 9, 10, 11, 192, 195, 176, 177, 179, 180, 181, 182, 234, 235, 236, 12, 13, 197]
def vG : List Nat := [0, 3, 10, 27, 67, 15, 20, 25]
theorem J_butG {s s' : mSt} (h : Fr uG vG s s') (hJ : J s) (hB : JB s') (hF : JF s') (hZ : JZ s') (hY : JY s') : J s' := ⟨JN_fr (Fr_sub h (by decide) (by decide)) hJ.1, hB, JD_fr (Fr_sub h (by decide) (by decide)) hJ.2.2.1, hF, JP_fr (Fr_sub h (by decide) (by decide)) hJ.2.2.2.2.1, JR_fr (Fr_sub h (by decide) (by decide)) hJ.2.2.2.2.2.1, JS_fr (Fr_sub h (by decide) (by decide)) hJ.2.2.2.2.2.2.1, JT_fr (Fr_sub h (by decide) (by decide)) hJ.2.2.2.2.2.2.2.1, JU_fr (Fr_sub h (by decide) (by decide)) hJ.2.2.2.2.2.2.2.2.1, hZ, JX_fr (Fr_sub h (by decide) (by decide)) hJ.2.2.2.2.2.2.2.2.2.2.1, hY⟩
def u0 : List Nat := [25, 26, 27, 28, 29, 30, 31, 32, 33, 34, 184, 185, 186, 187, 188, 189, 190, 191, 35, 36, 37, 38, 39, 40, 41, 42, 209, 210, 211, 212, 213, 214, 215, 43, 44, 45, 46, 198, 199, 200, 129, 130, 131, 132, 133, 134, 216, 217, 218, 219, 220, 166, 167, 168, 169, 231, 232, 233, 1, 2, 4, 5, 6, 7, 8, 9, 10, 11, 192, 195, 176, 177, 179, 180, 181, 182, 234, 235, 236, 12, 13, 197]
def v0 : List Nat := [0, 3, 10, 11, 41, 27, 49, 67, 15, 20, 25]
theorem J_but0 {s s' : mSt} (h : Fr u0 v0 s s') (hJ : J s) : J s' := ⟨JN_fr (Fr_sub h (by decide) (by decide)) hJ.1, JB_fr (Fr_sub h (by decide) (by decide)) hJ.2.1, JD_fr (Fr_sub h (by decide) (by decide)) hJ.2.2.1, JF_fr (Fr_sub h (by decide) (by decide)) hJ.2.2.2.1, JP_fr (Fr_sub h (by decide) (by decide)) hJ.2.2.2.2.1, JR_fr (Fr_sub h (by decide) (by decide)) hJ.2.2.2.2.2.1, JS_fr (Fr_sub h (by decide) (by decide)) hJ.2.2.2.2.2.2.1, JT_fr (Fr_sub h (by decide) (by decide)) hJ.2.2.2.2.2.2.2.1, JU_fr (Fr_sub h (by decide) (by decide)) hJ.2.2.2.2.2.2.2.2.1, JZ_fr (Fr_sub h (by decide) (by decide)) hJ.2.2.2.2.2.2.2.2.2.1, JX_fr (Fr_sub h (by decide) (by decide)) hJ.2.2.2.2.2.2.2.2.2.2.1, JY_fr (Fr_sub h (by decide) (by decide)) hJ.2.2.2.2.2.2.2.2.2.2.2⟩
section FIRST
variable {xs : Nat → Int32} {L : Nat}
theorem bd0 {a b : Int} (h1 : a ≤ 0) (h2 : 0 ≤ b) : bd 0 a b := ⟨h1, h2⟩
theorem J0N : JN (s_0 xs L) := by
  refine ⟨⟨⟨rfl, bd0 (by decide) (by decide)⟩, ⟨rfl, bd0 (by decide) (by decide)⟩, ⟨rfl, bd0 (by decide) (by decide)⟩⟩, ⟨rfl, rfl, rfl, rfl, rfl, rfl, rfl, rfl⟩, fun j => ?_, fun j hj => ?_⟩
  · have e1 : s_0 xs L 26 j = (List.replicate 8 (0 : Int32)).getD j 0 := rfl
    have e2 : s_0 xs L 27 j = (List.replicate 8 (0 : Int32)).getD j 0 := rfl
    rw [e1, e2, rep_get]
    exact ⟨bd0 (by decide) (by decide), bd0 (by decide) (by decide)⟩
  · have : (j : Int) < 0 := hj
    omega
theorem J0B : JB (s_0 xs L) := ⟨⟨rfl, bd0 (by decide) (by decide)⟩, ⟨rfl, bd0 (by decide) (by decide)⟩⟩
theorem J0D : JD (s_0 xs L) := ⟨⟨rfl, bd0 (by decide) (by decide)⟩, ⟨rfl, rfl, rfl⟩, fun j hj => by have : (j : Int) < 0 := hj; omega⟩
theorem J0F : JF (s_0 xs L) := ⟨⟨rfl, bd0 (by decide) (by decide)⟩, ⟨rfl, rfl, rfl, rfl, rfl⟩⟩
theorem J0P : JP (s_0 xs L) := ⟨⟨rfl, bd0 (by decide) (by decide)⟩, ⟨rfl, rfl, rfl⟩, fun j hj => by have : (j : Int) < 0 := hj; omega⟩
theorem J0R : JR (s_0 xs L) := by
  refine ⟨⟨rfl, bd0 (by decide) (by decide)⟩, rfl, fun i k hi _ hk => ?_⟩
  have e2 : s_0 xs L 195 (6 * i + k) = (List.replicate 48 (0 : Int32)).getD (6 * i + k) 0 := rfl
  rw [e2, rep_get]
  match i, hi with
  | 0, _ => exact (show s_0 xs L 4 k = 0 from (show s_0 xs L 4 k = ([0, 0, 0, 0, 0, 0] : List Int32).getD k 0 from rfl).trans (rep_get (n := 6)))
  | 1, _ => exact (show s_0 xs L 5 k = 0 from (show s_0 xs L 5 k = ([0, 0, 0, 0, 0, 0] : List Int32).getD k 0 from rfl).trans (rep_get (n := 6)))
  | 2, _ => exact (show s_0 xs L 6 k = 0 from (show s_0 xs L 6 k = ([0, 0, 0, 0, 0, 0] : List Int32).getD k 0 from rfl).trans (rep_get (n := 6)))
  | 3, _ => exact (show s_0 xs L 7 k = 0 from (show s_0 xs L 7 k = ([0, 0, 0, 0, 0, 0] : List Int32).getD k 0 from rfl).trans (rep_get (n := 6)))
  | 4, _ => exact (show s_0 xs L 8 k = 0 from (show s_0 xs L 8 k = ([0, 0, 0, 0, 0, 0] : List Int32).getD k 0 from rfl).trans (rep_get (n := 6)))
  | 5, _ => exact (show s_0 xs L 9 k = 0 from (show s_0 xs L 9 k = ([0, 0, 0, 0, 0, 0] : List Int32).getD k 0 from rfl).trans (rep_get (n := 6)))
  | 6, _ => exact (show s_0 xs L 10 k = 0 from (show s_0 xs L 10 k = ([0, 0, 0, 0, 0, 0] : List Int32).getD k 0 from rfl).trans (rep_get (n := 6)))
  | 7, _ => exact (show s_0 xs L 11 k = 0 from (show s_0 xs L 11 k = ([0, 0, 0, 0, 0, 0] : List Int32).getD k 0 from rfl).trans (rep_get (n := 6)))
  | n + 8, h => exact absurd h (by omega)
theorem J0S : JS (s_0 xs L) := by
  have z : ∀ j, s_0 xs L 177 j = 0 := fun j => (show s_0 xs L 177 j = ([0, 0, 0, 0] : List Int32).getD j 0 from rfl).trans (rep_get (n := 4))
  refine ⟨⟨rfl, fun i hi => ⟨by rw [z i]; exact bd0 (by decide) (by decide), Or.inl ?_⟩⟩, fun i k hi hk => ?_⟩
  · match i, hi with
    | 0, _ => exact ⟨rfl, rfl⟩
    | 1, _ => exact ⟨rfl, rfl⟩
    | 2, _ => exact ⟨rfl, rfl⟩
    | 3, _ => exact ⟨rfl, rfl⟩
    | n + 4, h => exact absurd h (by omega)
  · have e2 : s_0 xs L 236 (40 * i + k) = (List.replicate 160 (0 : Int32)).getD (40 * i + k) 0 := rfl
    rw [e2, rep_get]
    match i, hi with
    | 0, _ => exact (show s_0 xs L 179 k = (List.replicate 40 (0 : Int32)).getD k 0 from rfl).trans rep_get
    | 1, _ => exact (show s_0 xs L 180 k = (List.replicate 40 (0 : Int32)).getD k 0 from rfl).trans rep_get
    | 2, _ => exact (show s_0 xs L 181 k = (List.replicate 40 (0 : Int32)).getD k 0 from rfl).trans rep_get
    | 3, _ => exact (show s_0 xs L 182 k = (List.replicate 40 (0 : Int32)).getD k 0 from rfl).trans rep_get
    | n + 4, h => exact absurd h (by omega)
theorem J0T : JT (s_0 xs L) := by
  refine ⟨⟨rfl, bd0 (by decide) (by decide)⟩, rfl, rfl, fun j => ?_⟩
  have e1 : s_0 xs L 13 j = (List.replicate 240 (0 : Int32)).getD j 0 := rfl
  rw [e1, rep_get]
  exact bd0 (by decide) (by decide)
theorem J0U : JU (s_0 xs L) := by
  refine ⟨⟨show bd (100 : Int32) 0 999 from ⟨by decide, by decide⟩, show bd (20 : Int32) 0 999 from ⟨by decide, by decide⟩, show bd (1 : Int32) 0 20 from ⟨by decide, by decide⟩, show bd (2 : Int32) 0 20 from ⟨by decide, by decide⟩, show bd (1 : Int32) 0 20 from ⟨by decide, by decide⟩, show bd (5 : Int32) 1 50 from ⟨by decide, by decide⟩, show bd (4 : Int32) 1 20 from ⟨by decide, by decide⟩, show bd (2 : Int32) 1 20 from ⟨by decide, by decide⟩⟩, fun j hj => ?_⟩
  have : (j : Int) < 0 := hj
  omega
theorem J0Z : JZ (s_0 xs L) := fun j hj => by have : (j : Int) < 0 := hj; omega
theorem J0X : JX (s_0 xs L) := ⟨fun j hj => by have : (j : Int) < 0 := hj; omega, fun j hj => by have : (j : Int) < 0 := hj; omega⟩
theorem J0Y : JY (s_0 xs L) := ⟨⟨rfl, rfl, rfl, rfl, rfl⟩, fun j hj => by have : (j : Int) < 0 := hj; omega⟩
theorem J0_ok : J (s_0 xs L) := ⟨J0N, J0B, J0D, J0F, J0P, J0R, J0S, J0T, J0U, J0Z, J0X, J0Y⟩
end FIRST
