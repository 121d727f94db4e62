def cN (c : Nat) : String := (cond (Nat.ble c 9) (cond (Nat.ble c 4) (cond (Nat.ble c 2) (cond (Nat.ble c 1) (cond (Nat.ble c 0) RX0 RX1) RX2) (cond (Nat.ble c 3) RX3 RX4)) (cond (Nat.ble c 7) (cond (Nat.ble c 6) (cond (Nat.ble c 5) RX5 RX6) RX7) (cond (Nat.ble c 8) RX8 RX9))) (cond (Nat.ble c 14) (cond (Nat.ble c 12) (cond (Nat.ble c 11) (cond (Nat.ble c 10) RX10 RX11) RJ0) (cond (Nat.ble c 13) RJ1 RJ3)) (cond (Nat.ble c 16) (cond (Nat.ble c 15) RJ6 RJ7) (cond (Nat.ble c 17) RJ9 RL))))
/-- the words that a call may carry on -/
def wF : List Cond := lw_tbl.filter goodWord
theorem wFm (i : Nat) {w : Cond} (h : lw_tbl[i]? = some w) (g : goodWord w = true) : w ∈ wF := List.mem_filter.mpr ⟨List.mem_of_getElem? h, g⟩
theorem wt1 (i : Nat) {w : Cond} (h : tables_1_1[i]? = some w) (g : goodWord w = true) : w ∈ wF := List.mem_filter.mpr ⟨List.mem_append_right _ (List.mem_append_left _ (List.mem_of_getElem? h)), g⟩
theorem wt2 (i : Nat) {w : Cond} (h : tables_1_2[i]? = some w) (g : goodWord w = true) : w ∈ wF := List.mem_filter.mpr ⟨List.mem_append_right _ (List.mem_append_right _ (List.mem_append_left _ (List.mem_of_getElem? h))), g⟩
theorem wt3 (i : Nat) {w : Cond} (h : tables_1_3[i]? = some w) (g : goodWord w = true) : w ∈ wF := List.mem_filter.mpr ⟨List.mem_append_right _ (List.mem_append_right _ (List.mem_append_right _ (List.mem_append_left _ (List.mem_of_getElem? h)))), g⟩
theorem wt4 (i : Nat) {w : Cond} (h : tables_1_4[i]? = some w) (g : goodWord w = true) : w ∈ wF := List.mem_filter.mpr ⟨List.mem_append_right _ (List.mem_append_right _ (List.mem_append_right _ (List.mem_append_right _ (List.mem_append_left _ (List.mem_of_getElem? h))))), g⟩
theorem wt5 (i : Nat) {w : Cond} (h : tables_1_5[i]? = some w) (g : goodWord w = true) : w ∈ wF := List.mem_filter.mpr ⟨List.mem_append_right _ (List.mem_append_right _ (List.mem_append_right _ (List.mem_append_right _ (List.mem_append_right _ (List.mem_append_left _ (List.mem_of_getElem? h)))))), g⟩
theorem wt6 (i : Nat) {w : Cond} (h : tables_1_6[i]? = some w) (g : goodWord w = true) : w ∈ wF := List.mem_filter.mpr ⟨List.mem_append_right _ (List.mem_append_right _ (List.mem_append_right _ (List.mem_append_right _ (List.mem_append_right _ (List.mem_append_right _ (List.mem_append_left _ (List.mem_of_getElem? h))))))), g⟩
theorem wt7 (i : Nat) {w : Cond} (h : tables_1_7[i]? = some w) (g : goodWord w = true) : w ∈ wF := List.mem_filter.mpr ⟨List.mem_append_right _ (List.mem_append_right _ (List.mem_append_right _ (List.mem_append_right _ (List.mem_append_right _ (List.mem_append_right _ (List.mem_append_right _ (List.mem_append_left _ (List.mem_of_getElem? h)))))))), g⟩
theorem wt8 (i : Nat) {w : Cond} (h : tables_1_8[i]? = some w) (g : goodWord w = true) : w ∈ wF := List.mem_filter.mpr ⟨List.mem_append_right _ (List.mem_append_right _ (List.mem_append_right _ (List.mem_append_right _ (List.mem_append_right _ (List.mem_append_right _ (List.mem_append_right _ (List.mem_append_right _ (List.mem_of_getElem? h)))))))), g⟩
theorem wq1 (i n : Nat) {y : MethodName} (h : lw_privs_1[i]? = some (y, n)) : Cond.selects y.cls y y ∈ wF := List.mem_filter.mpr ⟨List.mem_append_left _ (List.mem_map.mpr ⟨(y, n), List.mem_append_left _ (List.mem_of_getElem? h), rfl⟩), rfl⟩
theorem wq2 (i n : Nat) {y : MethodName} (h : lw_privs_2[i]? = some (y, n)) : Cond.selects y.cls y y ∈ wF := List.mem_filter.mpr ⟨List.mem_append_left _ (List.mem_map.mpr ⟨(y, n), List.mem_append_right _ (List.mem_append_left _ (List.mem_of_getElem? h)), rfl⟩), rfl⟩
theorem wq3 (i n : Nat) {y : MethodName} (h : lw_privs_3[i]? = some (y, n)) : Cond.selects y.cls y y ∈ wF := List.mem_filter.mpr ⟨List.mem_append_left _ (List.mem_map.mpr ⟨(y, n), List.mem_append_right _ (List.mem_append_right _ (List.mem_append_left _ (List.mem_of_getElem? h))), rfl⟩), rfl⟩
theorem wq4 (i n : Nat) {y : MethodName} (h : lw_privs_4[i]? = some (y, n)) : Cond.selects y.cls y y ∈ wF := List.mem_filter.mpr ⟨List.mem_append_left _ (List.mem_map.mpr ⟨(y, n), List.mem_append_right _ (List.mem_append_right _ (List.mem_append_right _ (List.mem_append_left _ (List.mem_of_getElem? h)))), rfl⟩), rfl⟩
theorem wq5 (i n : Nat) {y : MethodName} (h : lw_privs_5[i]? = some (y, n)) : Cond.selects y.cls y y ∈ wF := List.mem_filter.mpr ⟨List.mem_append_left _ (List.mem_map.mpr ⟨(y, n), List.mem_append_right _ (List.mem_append_right _ (List.mem_append_right _ (List.mem_append_right _ (List.mem_append_left _ (List.mem_of_getElem? h))))), rfl⟩), rfl⟩
theorem wq6 (i n : Nat) {y : MethodName} (h : lw_privs_6[i]? = some (y, n)) : Cond.selects y.cls y y ∈ wF := List.mem_filter.mpr ⟨List.mem_append_left _ (List.mem_map.mpr ⟨(y, n), List.mem_append_right _ (List.mem_append_right _ (List.mem_append_right _ (List.mem_append_right _ (List.mem_append_right _ (List.mem_of_getElem? h))))), rfl⟩), rfl⟩
theorem wF_tbl {w : Cond} (h : w ∈ wF) : w ∈ lw_tbl := (List.mem_filter.mp h).1
theorem wF_good {ws : List Cond} (h : ∀ w ∈ ws, w ∈ wF) : GoodIn wF ws := fun w hw => ⟨h w hw, good_of_word (List.mem_filter.mp (h w hw)).2⟩
/-- a method that may be called -/
def mOKr (q : mRec) : Prop := Cond.code q.2.2.1 q.2.1 q.2.2.2.1 q.2.2.2.2.1 ∈ wF ∧ plainName q.2.2.1.cls = true ∧ Cond.initialized q.2.2.1.cls ∈ wF ∧
  (q.2.2.2.2.2.2.2.1 = true → Cond.static q.2.2.1 ∈ wF ∧ (parseMethodDescriptor q.2.2.1.desc).map (fun d => d.parameters.length) = some q.2.2.2.2.2.2.1) ∧
  (q.2.2.2.2.2.2.2.1 = false → (Cond.instanceMethod q.2.2.1 ∈ wF ∧ Cond.selects q.2.2.1.cls q.2.2.1 q.2.2.1 ∈ wF) ∧ (parseMethodDescriptor q.2.2.1.desc).map (fun d => d.parameters.length + 1) = some q.2.2.2.2.2.2.1) ∧
  (q.2.2.1.cls ≠ "java/lang/invoke/MethodHandle" ∧ q.2.2.1.cls ≠ "java/lang/invoke/VarHandle") ∧ q.2.2.1.cls = cN q.2.2.2.2.2.1
theorem mok_s {q : mRec} (h1 : Cond.code q.2.2.1 q.2.1 q.2.2.2.1 q.2.2.2.2.1 ∈ wF) (h2 : plainName q.2.2.1.cls = true) (h3 : Cond.initialized q.2.2.1.cls ∈ wF) (hs : q.2.2.2.2.2.2.2.1 = true) (h4 : Cond.static q.2.2.1 ∈ wF) (h5 : (parseMethodDescriptor q.2.2.1.desc).map (fun d => d.parameters.length) = some q.2.2.2.2.2.2.1) (h6 : q.2.2.1.cls ≠ "java/lang/invoke/MethodHandle" ∧ q.2.2.1.cls ≠ "java/lang/invoke/VarHandle") (h7 : q.2.2.1.cls = cN q.2.2.2.2.2.1) : mOKr q :=
  ⟨h1, h2, h3, fun _ => ⟨h4, h5⟩, fun h => absurd (h.symm.trans hs) (by decide), h6, h7⟩
theorem mok_i {q : mRec} (h1 : Cond.code q.2.2.1 q.2.1 q.2.2.2.1 q.2.2.2.2.1 ∈ wF) (h2 : plainName q.2.2.1.cls = true) (h3 : Cond.initialized q.2.2.1.cls ∈ wF) (hs : q.2.2.2.2.2.2.2.1 = false) (h4 : Cond.instanceMethod q.2.2.1 ∈ wF) (h4' : Cond.selects q.2.2.1.cls q.2.2.1 q.2.2.1 ∈ wF) (h5 : (parseMethodDescriptor q.2.2.1.desc).map (fun d => d.parameters.length + 1) = some q.2.2.2.2.2.2.1) (h6 : q.2.2.1.cls ≠ "java/lang/invoke/MethodHandle" ∧ q.2.2.1.cls ≠ "java/lang/invoke/VarHandle") (h7 : q.2.2.1.cls = cN q.2.2.2.2.2.1) : mOKr q :=
  ⟨h1, h2, h3, fun h => absurd (h.symm.trans hs) (by decide), fun _ => ⟨⟨h4, h4'⟩, h5⟩, h6, h7⟩
/-- the fields' table of a class -/
def Tv (ci : Nat) : u_T := (vwCl.getD ci (RX0, TX0, 0)).2.1
def flOK (c : Nat) (q : Nat × Nat × Nat) : Prop := Cond.fieldLink (cN c) q.1 (Tv q.2.1 q.2.2).1 (Tv q.2.1 q.2.2).2.1 (Tv q.2.1 q.2.2).2.2.1 ∈ wF
def mlOK (c : Nat) (q : Nat × Nat) : Prop := mOKr (mI q.2) ∧ (Cond.methodLink (cN c) q.1 (mNm q.2) ∈ wF ∨ (c = 4 ∧ q.1 = 26 ∧ q.2 = 145))
def ilOK (c : Nat) (q : Nat × Int32) : Prop := Cond.constant (cN c) q.1 q.2 ∈ wF
def jlOK (c : Nat) (q : Nat × Int64) : Prop := Cond.constantLong (cN c) q.1 q.2 ∈ wF
def mmN (k : Nat) : MethodName := match k with
  | 0 => Lib.Math.abs.name
  | 1 => Lib.Math.max.name
  | _ => Lib.Math.min.name
def mmB (k : Nat) : ByteArray := match k with
  | 0 => Lib.Math.abs.code
  | 1 => Lib.Math.max.code
  | _ => Lib.Math.min.code
def mmOK (c : Nat) (q : Nat × Nat) : Prop := Cond.methodLink (cN c) q.1 (mmN q.2) ∈ wF
def acOK (c : Nat) (q : Nat × Nat) : Prop := Cond.methodLink (cN c) q.1 arraycopyName ∈ wF
theorem memc {α : Type} {P : α → Prop} {a : α} {l : List α} (h : P a) (k : ∀ q ∈ l, P q) : ∀ q ∈ a :: l, P q := List.forall_mem_cons.mpr ⟨h, k⟩
theorem memn {α : Type} {P : α → Prop} : ∀ q ∈ ([] : List α), P q := fun _ h => absurd h List.not_mem_nil

set_option maxRecDepth 20000 in
theorem mo_X0_has : mOKr mr_X0_has := mok_i (wt4 187 rfl rfl) (by decide +kernel) (wt1 6 rfl rfl) rfl (wt4 185 rfl rfl) (wt4 186 rfl rfl) (by decide +kernel) (by decide +kernel) rfl
set_option maxRecDepth 20000 in
theorem mo_X0_add : mOKr mr_X0_add := mok_i (wt4 178 rfl rfl) (by decide +kernel) (wt1 6 rfl rfl) rfl (wt4 176 rfl rfl) (wt4 177 rfl rfl) (by decide +kernel) (by decide +kernel) rfl
set_option maxRecDepth 20000 in
theorem mo_X0_narrow : mOKr mr_X0_narrow := mok_i (wt4 195 rfl rfl) (by decide +kernel) (wt1 6 rfl rfl) rfl (wt4 193 rfl rfl) (wt4 194 rfl rfl) (by decide +kernel) (by decide +kernel) rfl
set_option maxRecDepth 20000 in
theorem mo_X0_isInHands : mOKr mr_X0_isInHands := mok_i (wt4 191 rfl rfl) (by decide +kernel) (wt1 6 rfl rfl) rfl (wt4 189 rfl rfl) (wt4 190 rfl rfl) (by decide +kernel) (by decide +kernel) rfl
set_option maxRecDepth 20000 in
theorem mo_X0_isOpen : mOKr mr_X0_isOpen := mok_i (wt3 95 rfl rfl) (by decide +kernel) (wt1 6 rfl rfl) rfl (wt3 93 rfl rfl) (wt3 94 rfl rfl) (by decide +kernel) (by decide +kernel) rfl
set_option maxRecDepth 20000 in
theorem mo_X0_openOnes : mOKr mr_X0_openOnes := mok_i (wt6 28 rfl rfl) (by decide +kernel) (wt1 6 rfl rfl) rfl (wt6 26 rfl rfl) (wt6 27 rfl rfl) (by decide +kernel) (by decide +kernel) rfl
set_option maxRecDepth 20000 in
theorem mo_X0_isCut : mOKr mr_X0_isCut := mok_i (wt3 91 rfl rfl) (by decide +kernel) (wt1 6 rfl rfl) rfl (wt3 90 rfl rfl) (wq1 1 10 rfl) (by decide +kernel) (by decide +kernel) rfl
set_option maxRecDepth 20000 in
theorem mo_X0_stateOf : mOKr mr_X0_stateOf := mok_i (wt3 87 rfl rfl) (by decide +kernel) (wt1 6 rfl rfl) rfl (wt3 85 rfl rfl) (wt3 86 rfl rfl) (by decide +kernel) (by decide +kernel) rfl
set_option maxRecDepth 20000 in
theorem mo_X0_litLines : mOKr mr_X0_litLines := mok_i (wt6 32 rfl rfl) (by decide +kernel) (wt1 6 rfl rfl) rfl (wt6 30 rfl rfl) (wt6 31 rfl rfl) (by decide +kernel) (by decide +kernel) rfl
set_option maxRecDepth 20000 in
theorem mo_X0_roomOf : mOKr mr_X0_roomOf := mok_i (wt3 108 rfl rfl) (by decide +kernel) (wt1 6 rfl rfl) rfl (wt3 106 rfl rfl) (wt3 107 rfl rfl) (by decide +kernel) (by decide +kernel) rfl
set_option maxRecDepth 20000 in
theorem mo_X0_farFrom : mOKr mr_X0_farFrom := mok_i (wt4 225 rfl rfl) (by decide +kernel) (wt1 6 rfl rfl) rfl (wt4 223 rfl rfl) (wt4 224 rfl rfl) (by decide +kernel) (by decide +kernel) rfl
set_option maxRecDepth 20000 in
theorem mo_X0_farFromRow : mOKr mr_X0_farFromRow := mok_i (wt4 230 rfl rfl) (by decide +kernel) (wt1 6 rfl rfl) rfl (wt4 229 rfl rfl) (wq2 4 10 rfl) (by decide +kernel) (by decide +kernel) rfl
set_option maxRecDepth 20000 in
theorem mo_X0_gap : mOKr mr_X0_gap := mok_s (wt4 234 rfl rfl) (by decide +kernel) (wt1 6 rfl rfl) rfl (wt4 233 rfl rfl) (by decide +kernel) (by decide +kernel) rfl
set_option maxRecDepth 20000 in
theorem mo_X0_couldShare : mOKr mr_X0_couldShare := mok_i (wt5 3 rfl rfl) (by decide +kernel) (wt1 6 rfl rfl) rfl (wt5 1 rfl rfl) (wt5 2 rfl rfl) (by decide +kernel) (by decide +kernel) rfl
set_option maxRecDepth 20000 in
theorem mo_X0_downHours : mOKr mr_X0_downHours := mok_i (wt5 166 rfl rfl) (by decide +kernel) (wt1 6 rfl rfl) rfl (wt5 164 rfl rfl) (wt5 165 rfl rfl) (by decide +kernel) (by decide +kernel) rfl
set_option maxRecDepth 20000 in
theorem mo_X0_nextDown : mOKr mr_X0_nextDown := mok_i (wt5 170 rfl rfl) (by decide +kernel) (wt1 6 rfl rfl) rfl (wt5 169 rfl rfl) (wq2 14 10 rfl) (by decide +kernel) (by decide +kernel) rfl
set_option maxRecDepth 20000 in
theorem mo_X1_has : mOKr mr_X1_has := mok_i (wt5 21 rfl rfl) (by decide +kernel) (wt1 10 rfl rfl) rfl (wt5 19 rfl rfl) (wt5 20 rfl rfl) (by decide +kernel) (by decide +kernel) rfl
set_option maxRecDepth 20000 in
theorem mo_X1_add : mOKr mr_X1_add := mok_i (wt5 13 rfl rfl) (by decide +kernel) (wt1 10 rfl rfl) rfl (wt5 11 rfl rfl) (wt5 12 rfl rfl) (by decide +kernel) (by decide +kernel) rfl
set_option maxRecDepth 20000 in
theorem mo_X1_hasLeave : mOKr mr_X1_hasLeave := mok_i (wt5 33 rfl rfl) (by decide +kernel) (wt1 10 rfl rfl) rfl (wt5 31 rfl rfl) (wt5 32 rfl rfl) (by decide +kernel) (by decide +kernel) rfl
set_option maxRecDepth 20000 in
theorem mo_X1_reelFor : mOKr mr_X1_reelFor := mok_i (wt5 37 rfl rfl) (by decide +kernel) (wt1 10 rfl rfl) rfl (wt5 35 rfl rfl) (wt5 36 rfl rfl) (by decide +kernel) (by decide +kernel) rfl
set_option maxRecDepth 20000 in
theorem mo_X1_placeX : mOKr mr_X1_placeX := mok_i (wt5 54 rfl rfl) (by decide +kernel) (wt1 10 rfl rfl) rfl (wt5 52 rfl rfl) (wt5 53 rfl rfl) (by decide +kernel) (by decide +kernel) rfl
set_option maxRecDepth 20000 in
theorem mo_X1_placeY : mOKr mr_X1_placeY := mok_i (wt5 60 rfl rfl) (by decide +kernel) (wt1 10 rfl rfl) rfl (wt5 58 rfl rfl) (wt5 59 rfl rfl) (by decide +kernel) (by decide +kernel) rfl
set_option maxRecDepth 20000 in
theorem mo_X1_hoursTo : mOKr mr_X1_hoursTo := mok_i (wt5 50 rfl rfl) (by decide +kernel) (wt1 10 rfl rfl) rfl (wt5 48 rfl rfl) (wt5 49 rfl rfl) (by decide +kernel) (by decide +kernel) rfl
set_option maxRecDepth 20000 in
theorem mo_X1_mayMend : mOKr mr_X1_mayMend := mok_i (wt5 29 rfl rfl) (by decide +kernel) (wt1 10 rfl rfl) rfl (wt5 27 rfl rfl) (wt5 28 rfl rfl) (by decide +kernel) (by decide +kernel) rfl
set_option maxRecDepth 20000 in
theorem mo_X1_beginsIn : mOKr mr_X1_beginsIn := mok_i (wt5 45 rfl rfl) (by decide +kernel) (wt1 10 rfl rfl) rfl (wt5 43 rfl rfl) (wt5 44 rfl rfl) (by decide +kernel) (by decide +kernel) rfl
set_option maxRecDepth 20000 in
theorem mo_X1_takeInHands : mOKr mr_X1_takeInHands := mok_i (wt5 41 rfl rfl) (by decide +kernel) (wt1 10 rfl rfl) rfl (wt5 39 rfl rfl) (wt5 40 rfl rfl) (by decide +kernel) (by decide +kernel) rfl
set_option maxRecDepth 20000 in
theorem mo_X2_gather : mOKr mr_X2_gather := mok_i (wt5 69 rfl rfl) (by decide +kernel) (wt1 11 rfl rfl) rfl (wt5 67 rfl rfl) (wt5 68 rfl rfl) (by decide +kernel) (by decide +kernel) rfl
set_option maxRecDepth 20000 in
theorem mo_X2_jobBits : mOKr mr_X2_jobBits := mok_i (wt5 75 rfl rfl) (by decide +kernel) (wt1 11 rfl rfl) rfl (wt5 73 rfl rfl) (wt5 74 rfl rfl) (by decide +kernel) (by decide +kernel) rfl
set_option maxRecDepth 20000 in
theorem mo_X2_weigh : mOKr mr_X2_weigh := mok_i (wt5 79 rfl rfl) (by decide +kernel) (wt1 11 rfl rfl) rfl (wt5 77 rfl rfl) (wt5 78 rfl rfl) (by decide +kernel) (by decide +kernel) rfl
set_option maxRecDepth 20000 in
theorem mo_X2_measure : mOKr mr_X2_measure := mok_i (wt5 85 rfl rfl) (by decide +kernel) (wt1 11 rfl rfl) rfl (wt5 83 rfl rfl) (wt5 84 rfl rfl) (by decide +kernel) (by decide +kernel) rfl
set_option maxRecDepth 20000 in
theorem mo_X2_weightOf : mOKr mr_X2_weightOf := mok_i (wt5 92 rfl rfl) (by decide +kernel) (wt1 11 rfl rfl) rfl (wt5 91 rfl rfl) (wq2 5 20 rfl) (by decide +kernel) (by decide +kernel) rfl
set_option maxRecDepth 20000 in
theorem mo_X2_costFrom : mOKr mr_X2_costFrom := mok_i (wt5 96 rfl rfl) (by decide +kernel) (wt1 11 rfl rfl) rfl (wt5 95 rfl rfl) (wq2 6 20 rfl) (by decide +kernel) (by decide +kernel) rfl
set_option maxRecDepth 20000 in
theorem mo_X2_costFor : mOKr mr_X2_costFor := mok_i (wt5 102 rfl rfl) (by decide +kernel) (wt1 11 rfl rfl) rfl (wt5 101 rfl rfl) (wq2 7 20 rfl) (by decide +kernel) (by decide +kernel) rfl
set_option maxRecDepth 20000 in
theorem mo_X2_findBest : mOKr mr_X2_findBest := mok_i (wt5 109 rfl rfl) (by decide +kernel) (wt1 11 rfl rfl) rfl (wt5 107 rfl rfl) (wt5 108 rfl rfl) (by decide +kernel) (by decide +kernel) rfl
set_option maxRecDepth 20000 in
theorem mo_X2_costOfParting : mOKr mr_X2_costOfParting := mok_i (wt5 114 rfl rfl) (by decide +kernel) (wt1 11 rfl rfl) rfl (wt5 113 rfl rfl) (wq2 8 20 rfl) (by decide +kernel) (by decide +kernel) rfl
set_option maxRecDepth 20000 in
theorem mo_X2_nextParting : mOKr mr_X2_nextParting := mok_i (wt5 119 rfl rfl) (by decide +kernel) (wt1 11 rfl rfl) rfl (wt5 118 rfl rfl) (wq2 9 20 rfl) (by decide +kernel) (by decide +kernel) rfl
set_option maxRecDepth 20000 in
theorem mo_X2_bestShipOf : mOKr mr_X2_bestShipOf := mok_i (wt5 123 rfl rfl) (by decide +kernel) (wt1 11 rfl rfl) rfl (wt5 121 rfl rfl) (wt5 122 rfl rfl) (by decide +kernel) (by decide +kernel) rfl
set_option maxRecDepth 20000 in
theorem mo_X2_goPlainly : mOKr mr_X2_goPlainly := mok_i (wt5 131 rfl rfl) (by decide +kernel) (wt1 11 rfl rfl) rfl (wt5 129 rfl rfl) (wt5 130 rfl rfl) (by decide +kernel) (by decide +kernel) rfl
set_option maxRecDepth 20000 in
theorem mo_X2_firstFree : mOKr mr_X2_firstFree := mok_i (wt5 135 rfl rfl) (by decide +kernel) (wt1 11 rfl rfl) rfl (wt5 134 rfl rfl) (wq2 10 20 rfl) (by decide +kernel) (by decide +kernel) rfl
set_option maxRecDepth 20000 in
theorem mo_X2_soonestFor : mOKr mr_X2_soonestFor := mok_i (wt5 139 rfl rfl) (by decide +kernel) (wt1 11 rfl rfl) rfl (wt5 138 rfl rfl) (wq2 11 20 rfl) (by decide +kernel) (by decide +kernel) rfl
set_option maxRecDepth 20000 in
theorem mo_X2_doPlainly : mOKr mr_X2_doPlainly := mok_i (wt5 143 rfl rfl) (by decide +kernel) (wt1 11 rfl rfl) rfl (wt5 142 rfl rfl) (wq2 12 20 rfl) (by decide +kernel) (by decide +kernel) rfl
set_option maxRecDepth 20000 in
theorem mo_X2_plainLeft : mOKr mr_X2_plainLeft := mok_i (wt5 147 rfl rfl) (by decide +kernel) (wt1 11 rfl rfl) rfl (wt5 145 rfl rfl) (wt5 146 rfl rfl) (by decide +kernel) (by decide +kernel) rfl
set_option maxRecDepth 20000 in
theorem mo_X3_hasLand : mOKr mr_X3_hasLand := mok_i (wt3 68 rfl rfl) (by decide +kernel) (wt1 5 rfl rfl) rfl (wt3 66 rfl rfl) (wt3 67 rfl rfl) (by decide +kernel) (by decide +kernel) rfl
set_option maxRecDepth 20000 in
theorem mo_X3_hasLine : mOKr mr_X3_hasLine := mok_i (wt3 83 rfl rfl) (by decide +kernel) (wt1 5 rfl rfl) rfl (wt3 81 rfl rfl) (wt3 82 rfl rfl) (by decide +kernel) (by decide +kernel) rfl
set_option maxRecDepth 20000 in
theorem mo_X3_addLand : mOKr mr_X3_addLand := mok_i (wt3 56 rfl rfl) (by decide +kernel) (wt1 5 rfl rfl) rfl (wt3 54 rfl rfl) (wt3 55 rfl rfl) (by decide +kernel) (by decide +kernel) rfl
set_option maxRecDepth 20000 in
theorem mo_X3_addLine : mOKr mr_X3_addLine := mok_i (wt3 72 rfl rfl) (by decide +kernel) (wt1 5 rfl rfl) rfl (wt3 70 rfl rfl) (wt3 71 rfl rfl) (by decide +kernel) (by decide +kernel) rfl
set_option maxRecDepth 20000 in
theorem mo_X3_lightIn : mOKr mr_X3_lightIn := mok_i (wt3 103 rfl rfl) (by decide +kernel) (wt1 5 rfl rfl) rfl (wt3 101 rfl rfl) (wt3 102 rfl rfl) (by decide +kernel) (by decide +kernel) rfl
set_option maxRecDepth 20000 in
theorem mo_X3_isBright : mOKr mr_X3_isBright := mok_i (wt3 99 rfl rfl) (by decide +kernel) (wt1 5 rfl rfl) rfl (wt3 97 rfl rfl) (wt3 98 rfl rfl) (by decide +kernel) (by decide +kernel) rfl
set_option maxRecDepth 20000 in
theorem mo_X3_fullRoom : mOKr mr_X3_fullRoom := mok_i (wt3 112 rfl rfl) (by decide +kernel) (wt1 5 rfl rfl) rfl (wt3 110 rfl rfl) (wt3 111 rfl rfl) (by decide +kernel) (by decide +kernel) rfl
set_option maxRecDepth 20000 in
theorem mo_X3_otherEnd : mOKr mr_X3_otherEnd := mok_i (wt3 147 rfl rfl) (by decide +kernel) (wt1 5 rfl rfl) rfl (wt3 145 rfl rfl) (wt3 146 rfl rfl) (by decide +kernel) (by decide +kernel) rfl
set_option maxRecDepth 20000 in
theorem mo_X3_stepsAlongX : mOKr mr_X3_stepsAlongX := mok_i (wt4 212 rfl rfl) (by decide +kernel) (wt1 5 rfl rfl) rfl (wt4 210 rfl rfl) (wt4 211 rfl rfl) (by decide +kernel) (by decide +kernel) rfl
set_option maxRecDepth 20000 in
theorem mo_X3_placeX : mOKr mr_X3_placeX := mok_i (wt4 208 rfl rfl) (by decide +kernel) (wt1 5 rfl rfl) rfl (wt4 206 rfl rfl) (wt4 207 rfl rfl) (by decide +kernel) (by decide +kernel) rfl
set_option maxRecDepth 20000 in
theorem mo_X3_placeY : mOKr mr_X3_placeY := mok_i (wt4 217 rfl rfl) (by decide +kernel) (wt1 5 rfl rfl) rfl (wt4 215 rfl rfl) (wt4 216 rfl rfl) (by decide +kernel) (by decide +kernel) rfl
set_option maxRecDepth 20000 in
theorem mo_X4_takeBytes : mOKr mr_X4_takeBytes := mok_i (wt3 180 rfl rfl) (by decide +kernel) (wt1 4 rfl rfl) rfl (wt3 178 rfl rfl) (wt3 179 rfl rfl) (by decide +kernel) (by decide +kernel) rfl
set_option maxRecDepth 20000 in
theorem mo_X4_keepFirst : mOKr mr_X4_keepFirst := mok_i (wt3 188 rfl rfl) (by decide +kernel) (wt1 4 rfl rfl) rfl (wt3 186 rfl rfl) (wt3 187 rfl rfl) (by decide +kernel) (by decide +kernel) rfl
set_option maxRecDepth 20000 in
theorem mo_X4_tell : mOKr mr_X4_tell := mok_i (wt3 197 rfl rfl) (by decide +kernel) (wt1 4 rfl rfl) rfl (wt3 195 rfl rfl) (wt3 196 rfl rfl) (by decide +kernel) (by decide +kernel) rfl
set_option maxRecDepth 20000 in
theorem mo_X4_readLine : mOKr mr_X4_readLine := mok_i (wt3 214 rfl rfl) (by decide +kernel) (wt1 4 rfl rfl) rfl (wt3 213 rfl rfl) (wq1 9 10 rfl) (by decide +kernel) (by decide +kernel) rfl
set_option maxRecDepth 20000 in
theorem mo_X4_readRent : mOKr mr_X4_readRent := mok_i (wt4 31 rfl rfl) (by decide +kernel) (wt1 4 rfl rfl) rfl (wt4 30 rfl rfl) (wq1 11 10 rfl) (by decide +kernel) (by decide +kernel) rfl
set_option maxRecDepth 20000 in
theorem mo_X4_readHouse : mOKr mr_X4_readHouse := mok_i (wt4 35 rfl rfl) (by decide +kernel) (wt1 4 rfl rfl) rfl (wt4 34 rfl rfl) (wq1 12 10 rfl) (by decide +kernel) (by decide +kernel) rfl
set_option maxRecDepth 20000 in
theorem mo_X4_readWord : mOKr mr_X4_readWord := mok_i (wt4 44 rfl rfl) (by decide +kernel) (wt1 4 rfl rfl) rfl (wt4 43 rfl rfl) (wq1 14 10 rfl) (by decide +kernel) (by decide +kernel) rfl
set_option maxRecDepth 20000 in
theorem mo_X4_readStop : mOKr mr_X4_readStop := mok_i (wt4 50 rfl rfl) (by decide +kernel) (wt1 4 rfl rfl) rfl (wt4 49 rfl rfl) (wq1 15 10 rfl) (by decide +kernel) (by decide +kernel) rfl
set_option maxRecDepth 20000 in
theorem mo_X4_readNumber : mOKr mr_X4_readNumber := mok_i (wt4 39 rfl rfl) (by decide +kernel) (wt1 4 rfl rfl) rfl (wt4 38 rfl rfl) (wq1 13 10 rfl) (by decide +kernel) (by decide +kernel) rfl
set_option maxRecDepth 20000 in
theorem mo_X4_fail : mOKr mr_X4_fail := mok_i (wt3 210 rfl rfl) (by decide +kernel) (wt1 4 rfl rfl) rfl (wt3 209 rfl rfl) (wq1 8 10 rfl) (by decide +kernel) (by decide +kernel) rfl
set_option maxRecDepth 20000 in
theorem mo_X4_nextToken : mOKr mr_X4_nextToken := mok_i (wt3 202 rfl rfl) (by decide +kernel) (wt1 4 rfl rfl) rfl (wt3 201 rfl rfl) (wq1 6 10 rfl) (by decide +kernel) (by decide +kernel) rfl
set_option maxRecDepth 20000 in
theorem mo_X4_nextNumber : mOKr mr_X4_nextNumber := mok_i (wt3 206 rfl rfl) (by decide +kernel) (wt1 4 rfl rfl) rfl (wt3 205 rfl rfl) (wq1 7 10 rfl) (by decide +kernel) (by decide +kernel) rfl
set_option maxRecDepth 20000 in
theorem mo_X4_isWord : mOKr mr_X4_isWord := mok_i (wt3 219 rfl rfl) (by decide +kernel) (wt1 4 rfl rfl) rfl (wt3 218 rfl rfl) (wq1 10 10 rfl) (by decide +kernel) (by decide +kernel) rfl
set_option maxRecDepth 20000 in
theorem mo_X4_ruleNamed : mOKr mr_X4_ruleNamed := mok_i (wt4 54 rfl rfl) (by decide +kernel) (wt1 4 rfl rfl) rfl (wt4 53 rfl rfl) (wq2 0 10 rfl) (by decide +kernel) (by decide +kernel) rfl
set_option maxRecDepth 20000 in
theorem mo_X4_nameOf : mOKr mr_X4_nameOf := mok_s (wt4 57 rfl rfl) (by decide +kernel) (wt1 4 rfl rfl) rfl (wt4 56 rfl rfl) (by decide +kernel) (by decide +kernel) rfl
set_option maxRecDepth 20000 in
theorem mo_X5_setAtFirst : mOKr mr_X5_setAtFirst := mok_i (wt1 40 rfl rfl) (by decide +kernel) (wt1 2 rfl rfl) rfl (wt1 38 rfl rfl) (wt1 39 rfl rfl) (by decide +kernel) (by decide +kernel) rfl
set_option maxRecDepth 20000 in
theorem mo_X5_copyFrom : mOKr mr_X5_copyFrom := mok_i (wt4 73 rfl rfl) (by decide +kernel) (wt1 2 rfl rfl) rfl (wt4 71 rfl rfl) (wt4 72 rfl rfl) (by decide +kernel) (by decide +kernel) rfl
set_option maxRecDepth 20000 in
theorem mo_X6_findBest : mOKr mr_X6_findBest := mok_i (wt5 186 rfl rfl) (by decide +kernel) (wt1 12 rfl rfl) rfl (wt5 184 rfl rfl) (wt5 185 rfl rfl) (by decide +kernel) (by decide +kernel) rfl
set_option maxRecDepth 20000 in
theorem mo_X6_isBetter : mOKr mr_X6_isBetter := mok_i (wt5 223 rfl rfl) (by decide +kernel) (wt1 12 rfl rfl) rfl (wt5 222 rfl rfl) (wq3 6 9 rfl) (by decide +kernel) (by decide +kernel) rfl
set_option maxRecDepth 20000 in
theorem mo_X6_coinsOf : mOKr mr_X6_coinsOf := mok_i (wt5 219 rfl rfl) (by decide +kernel) (wt1 12 rfl rfl) rfl (wt5 218 rfl rfl) (wq3 5 9 rfl) (by decide +kernel) (by decide +kernel) rfl
set_option maxRecDepth 20000 in
theorem mo_X6_isSafe : mOKr mr_X6_isSafe := mok_i (wt5 190 rfl rfl) (by decide +kernel) (wt1 12 rfl rfl) rfl (wt5 189 rfl rfl) (wq2 15 9 rfl) (by decide +kernel) (by decide +kernel) rfl
set_option maxRecDepth 20000 in
theorem mo_X6_gatherTies : mOKr mr_X6_gatherTies := mok_i (wt5 194 rfl rfl) (by decide +kernel) (wt1 12 rfl rfl) rfl (wt5 193 rfl rfl) (wq3 0 9 rfl) (by decide +kernel) (by decide +kernel) rfl
set_option maxRecDepth 20000 in
theorem mo_X6_addTie : mOKr mr_X6_addTie := mok_i (wt5 198 rfl rfl) (by decide +kernel) (wt1 12 rfl rfl) rfl (wt5 197 rfl rfl) (wq3 1 9 rfl) (by decide +kernel) (by decide +kernel) rfl
set_option maxRecDepth 20000 in
theorem mo_X6_areJoinedWell : mOKr mr_X6_areJoinedWell := mok_i (wt5 206 rfl rfl) (by decide +kernel) (wt1 12 rfl rfl) rfl (wt5 205 rfl rfl) (wq3 2 9 rfl) (by decide +kernel) (by decide +kernel) rfl
set_option maxRecDepth 20000 in
theorem mo_X6_spread : mOKr mr_X6_spread := mok_i (wt5 211 rfl rfl) (by decide +kernel) (wt1 12 rfl rfl) rfl (wt5 210 rfl rfl) (wq3 3 9 rfl) (by decide +kernel) (by decide +kernel) rfl
set_option maxRecDepth 20000 in
theorem mo_X6_giveBack : mOKr mr_X6_giveBack := mok_i (wt5 215 rfl rfl) (by decide +kernel) (wt1 12 rfl rfl) rfl (wt5 214 rfl rfl) (wq3 4 9 rfl) (by decide +kernel) (by decide +kernel) rfl
set_option maxRecDepth 20000 in
theorem mo_X7_has : mOKr mr_X7_has := mok_i (wt5 232 rfl rfl) (by decide +kernel) (wt1 13 rfl rfl) rfl (wt5 230 rfl rfl) (wt5 231 rfl rfl) (by decide +kernel) (by decide +kernel) rfl
set_option maxRecDepth 20000 in
theorem mo_X7_isLane : mOKr mr_X7_isLane := mok_i (wt5 236 rfl rfl) (by decide +kernel) (wt1 13 rfl rfl) rfl (wt5 234 rfl rfl) (wt5 235 rfl rfl) (by decide +kernel) (by decide +kernel) rfl
set_option maxRecDepth 20000 in
theorem mo_X7_isNothing : mOKr mr_X7_isNothing := mok_i (wt6 8 rfl rfl) (by decide +kernel) (wt1 13 rfl rfl) rfl (wt6 6 rfl rfl) (wt6 7 rfl rfl) (by decide +kernel) (by decide +kernel) rfl
set_option maxRecDepth 20000 in
theorem mo_X7_hasCell : mOKr mr_X7_hasCell := mok_i (wt6 12 rfl rfl) (by decide +kernel) (wt1 13 rfl rfl) rfl (wt6 10 rfl rfl) (wt6 11 rfl rfl) (by decide +kernel) (by decide +kernel) rfl
set_option maxRecDepth 20000 in
theorem mo_X7_begin : mOKr mr_X7_begin := mok_i (wt6 0 rfl rfl) (by decide +kernel) (wt1 13 rfl rfl) rfl (wt5 238 rfl rfl) (wt5 239 rfl rfl) (by decide +kernel) (by decide +kernel) rfl
set_option maxRecDepth 20000 in
theorem mo_X7_put : mOKr mr_X7_put := mok_i (wt6 16 rfl rfl) (by decide +kernel) (wt1 13 rfl rfl) rfl (wt6 14 rfl rfl) (wt6 15 rfl rfl) (by decide +kernel) (by decide +kernel) rfl
set_option maxRecDepth 20000 in
theorem mo_X8_has : mOKr mr_X8_has := mok_i (wt4 102 rfl rfl) (by decide +kernel) (wt1 7 rfl rfl) rfl (wt4 100 rfl rfl) (wt4 101 rfl rfl) (by decide +kernel) (by decide +kernel) rfl
set_option maxRecDepth 20000 in
theorem mo_X8_add : mOKr mr_X8_add := mok_i (wt4 94 rfl rfl) (by decide +kernel) (wt1 7 rfl rfl) rfl (wt4 92 rfl rfl) (wt4 93 rfl rfl) (by decide +kernel) (by decide +kernel) rfl
set_option maxRecDepth 20000 in
theorem mo_X9_keepRooms : mOKr mr_X9_keepRooms := mok_i (wt3 120 rfl rfl) (by decide +kernel) (wt1 9 rfl rfl) rfl (wt3 118 rfl rfl) (wt3 119 rfl rfl) (by decide +kernel) (by decide +kernel) rfl
set_option maxRecDepth 20000 in
theorem mo_X9_goesBy : mOKr mr_X9_goesBy := mok_i (wt3 116 rfl rfl) (by decide +kernel) (wt1 9 rfl rfl) rfl (wt3 114 rfl rfl) (wt3 115 rfl rfl) (by decide +kernel) (by decide +kernel) rfl
set_option maxRecDepth 20000 in
theorem mo_X9_ahead : mOKr mr_X9_ahead := mok_i (wt3 151 rfl rfl) (by decide +kernel) (wt1 9 rfl rfl) rfl (wt3 149 rfl rfl) (wt3 150 rfl rfl) (by decide +kernel) (by decide +kernel) rfl
set_option maxRecDepth 20000 in
theorem mo_X9_lead : mOKr mr_X9_lead := mok_i (wt3 125 rfl rfl) (by decide +kernel) (wt1 9 rfl rfl) rfl (wt3 123 rfl rfl) (wt3 124 rfl rfl) (by decide +kernel) (by decide +kernel) rfl
set_option maxRecDepth 20000 in
theorem mo_X9_leadOne : mOKr mr_X9_leadOne := mok_i (wt3 129 rfl rfl) (by decide +kernel) (wt1 9 rfl rfl) rfl (wt3 128 rfl rfl) (wq1 2 15 rfl) (by decide +kernel) (by decide +kernel) rfl
set_option maxRecDepth 20000 in
theorem mo_X9_stepOf : mOKr mr_X9_stepOf := mok_i (wt4 116 rfl rfl) (by decide +kernel) (wt1 9 rfl rfl) rfl (wt4 114 rfl rfl) (wt4 115 rfl rfl) (by decide +kernel) (by decide +kernel) rfl
set_option maxRecDepth 20000 in
theorem mo_X9_measureTo : mOKr mr_X9_measureTo := mok_i (wt3 133 rfl rfl) (by decide +kernel) (wt1 9 rfl rfl) rfl (wt3 132 rfl rfl) (wq1 3 15 rfl) (by decide +kernel) (by decide +kernel) rfl
set_option maxRecDepth 20000 in
theorem mo_X9_follow : mOKr mr_X9_follow := mok_i (wt3 139 rfl rfl) (by decide +kernel) (wt1 9 rfl rfl) rfl (wt3 138 rfl rfl) (wq1 4 15 rfl) (by decide +kernel) (by decide +kernel) rfl
set_option maxRecDepth 20000 in
theorem mo_X9_leastStep : mOKr mr_X9_leastStep := mok_i (wt3 143 rfl rfl) (by decide +kernel) (wt1 9 rfl rfl) rfl (wt3 142 rfl rfl) (wq1 5 15 rfl) (by decide +kernel) (by decide +kernel) rfl
set_option maxRecDepth 20000 in
theorem mo_X9_heapsWithout : mOKr mr_X9_heapsWithout := mok_i (wt4 124 rfl rfl) (by decide +kernel) (wt1 9 rfl rfl) rfl (wt4 122 rfl rfl) (wt4 123 rfl rfl) (by decide +kernel) (by decide +kernel) rfl
set_option maxRecDepth 20000 in
theorem mo_X9_joinHeaps : mOKr mr_X9_joinHeaps := mok_i (wt4 128 rfl rfl) (by decide +kernel) (wt1 9 rfl rfl) rfl (wt4 127 rfl rfl) (wq2 1 15 rfl) (by decide +kernel) (by decide +kernel) rfl
set_option maxRecDepth 20000 in
theorem mo_X9_swingUntilBack : mOKr mr_X9_swingUntilBack := mok_i (wt4 140 rfl rfl) (by decide +kernel) (wt1 9 rfl rfl) rfl (wt4 138 rfl rfl) (wt4 139 rfl rfl) (by decide +kernel) (by decide +kernel) rfl
set_option maxRecDepth 20000 in
theorem mo_X9_sameTurn : mOKr mr_X9_sameTurn := mok_i (wt4 156 rfl rfl) (by decide +kernel) (wt1 9 rfl rfl) rfl (wt4 154 rfl rfl) (wt4 155 rfl rfl) (by decide +kernel) (by decide +kernel) rfl
set_option maxRecDepth 20000 in
theorem mo_X9_areLike : mOKr mr_X9_areLike := mok_i (wt4 152 rfl rfl) (by decide +kernel) (wt1 9 rfl rfl) rfl (wt4 151 rfl rfl) (wq2 3 15 rfl) (by decide +kernel) (by decide +kernel) rfl
set_option maxRecDepth 20000 in
theorem mo_X9_chooseAll : mOKr mr_X9_chooseAll := mok_i (wt4 144 rfl rfl) (by decide +kernel) (wt1 9 rfl rfl) rfl (wt4 142 rfl rfl) (wt4 143 rfl rfl) (by decide +kernel) (by decide +kernel) rfl
set_option maxRecDepth 20000 in
theorem mo_X9_chooseTo : mOKr mr_X9_chooseTo := mok_i (wt4 148 rfl rfl) (by decide +kernel) (wt1 9 rfl rfl) rfl (wt4 147 rfl rfl) (wq2 2 15 rfl) (by decide +kernel) (by decide +kernel) rfl
set_option maxRecDepth 20000 in
theorem mo_X9_greatestLoad : mOKr mr_X9_greatestLoad := mok_i (wt4 165 rfl rfl) (by decide +kernel) (wt1 9 rfl rfl) rfl (wt4 163 rfl rfl) (wt4 164 rfl rfl) (by decide +kernel) (by decide +kernel) rfl
set_option maxRecDepth 20000 in
theorem mo_X9_overfull : mOKr mr_X9_overfull := mok_i (wt4 170 rfl rfl) (by decide +kernel) (wt1 9 rfl rfl) rfl (wt4 168 rfl rfl) (wt4 169 rfl rfl) (by decide +kernel) (by decide +kernel) rfl
set_option maxRecDepth 20000 in
theorem mo_X10_land : mOKr mr_X10_land := mok_i (wt3 49 rfl rfl) (by decide +kernel) (wt1 1 rfl rfl) rfl (wt3 47 rfl rfl) (wt3 48 rfl rfl) (by decide +kernel) (by decide +kernel) rfl
set_option maxRecDepth 20000 in
theorem mo_X10_line : mOKr mr_X10_line := mok_i (wt3 60 rfl rfl) (by decide +kernel) (wt1 1 rfl rfl) rfl (wt3 58 rfl rfl) (wt3 59 rfl rfl) (by decide +kernel) (by decide +kernel) rfl
set_option maxRecDepth 20000 in
theorem mo_X10_lineOf : mOKr mr_X10_lineOf := mok_i (wt3 79 rfl rfl) (by decide +kernel) (wt1 1 rfl rfl) rfl (wt3 77 rfl rfl) (wt3 78 rfl rfl) (by decide +kernel) (by decide +kernel) rfl
set_option maxRecDepth 20000 in
theorem mo_X10_light : mOKr mr_X10_light := mok_i (wt3 155 rfl rfl) (by decide +kernel) (wt1 1 rfl rfl) rfl (wt3 153 rfl rfl) (wt3 154 rfl rfl) (by decide +kernel) (by decide +kernel) rfl
set_option maxRecDepth 20000 in
theorem mo_X10_until : mOKr mr_X10_until := mok_i (wt3 160 rfl rfl) (by decide +kernel) (wt1 1 rfl rfl) rfl (wt3 158 rfl rfl) (wt3 159 rfl rfl) (by decide +kernel) (by decide +kernel) rfl
set_option maxRecDepth 20000 in
theorem mo_X10_change : mOKr mr_X10_change := mok_i (wt3 164 rfl rfl) (by decide +kernel) (wt1 1 rfl rfl) rfl (wt3 162 rfl rfl) (wt3 163 rfl rfl) (by decide +kernel) (by decide +kernel) rfl
set_option maxRecDepth 20000 in
theorem mo_X10_year : mOKr mr_X10_year := mok_i (wt3 168 rfl rfl) (by decide +kernel) (wt1 1 rfl rfl) rfl (wt3 166 rfl rfl) (wt3 167 rfl rfl) (by decide +kernel) (by decide +kernel) rfl
set_option maxRecDepth 20000 in
theorem mo_X10_hour : mOKr mr_X10_hour := mok_i (wt3 172 rfl rfl) (by decide +kernel) (wt1 1 rfl rfl) rfl (wt3 170 rfl rfl) (wt3 171 rfl rfl) (by decide +kernel) (by decide +kernel) rfl
set_option maxRecDepth 20000 in
theorem mo_X10_feed : mOKr mr_X10_feed := mok_i (wt3 176 rfl rfl) (by decide +kernel) (wt1 1 rfl rfl) rfl (wt3 174 rfl rfl) (wt3 175 rfl rfl) (by decide +kernel) (by decide +kernel) rfl
set_option maxRecDepth 20000 in
theorem mo_X10_end : mOKr mr_X10_end := mok_i (wt3 184 rfl rfl) (by decide +kernel) (wt1 1 rfl rfl) rfl (wt3 182 rfl rfl) (wt3 183 rfl rfl) (by decide +kernel) (by decide +kernel) rfl
set_option maxRecDepth 20000 in
theorem mo_X10_rules : mOKr mr_X10_rules := mok_i (wt3 193 rfl rfl) (by decide +kernel) (wt1 1 rfl rfl) rfl (wt3 191 rfl rfl) (wt3 192 rfl rfl) (by decide +kernel) (by decide +kernel) rfl
set_option maxRecDepth 20000 in
theorem mo_X10_fault : mOKr mr_X10_fault := mok_i (wt4 78 rfl rfl) (by decide +kernel) (wt1 1 rfl rfl) rfl (wt4 76 rfl rfl) (wt4 77 rfl rfl) (by decide +kernel) (by decide +kernel) rfl
set_option maxRecDepth 20000 in
theorem mo_X10_rule : mOKr mr_X10_rule := mok_i (wt4 82 rfl rfl) (by decide +kernel) (wt1 1 rfl rfl) rfl (wt4 80 rfl rfl) (wt4 81 rfl rfl) (by decide +kernel) (by decide +kernel) rfl
set_option maxRecDepth 20000 in
theorem mo_X10_rent : mOKr mr_X10_rent := mok_i (wt4 86 rfl rfl) (by decide +kernel) (wt1 1 rfl rfl) rfl (wt4 84 rfl rfl) (wt4 85 rfl rfl) (by decide +kernel) (by decide +kernel) rfl
set_option maxRecDepth 20000 in
theorem mo_X10_demand : mOKr mr_X10_demand := mok_i (wt4 90 rfl rfl) (by decide +kernel) (wt1 1 rfl rfl) rfl (wt4 88 rfl rfl) (wt4 89 rfl rfl) (by decide +kernel) (by decide +kernel) rfl
set_option maxRecDepth 20000 in
theorem mo_X10_much : mOKr mr_X10_much := mok_i (wt4 98 rfl rfl) (by decide +kernel) (wt1 1 rfl rfl) rfl (wt4 96 rfl rfl) (wt4 97 rfl rfl) (by decide +kernel) (by decide +kernel) rfl
set_option maxRecDepth 20000 in
theorem mo_X10_led : mOKr mr_X10_led := mok_i (wt4 106 rfl rfl) (by decide +kernel) (wt1 1 rfl rfl) rfl (wt4 104 rfl rfl) (wt4 105 rfl rfl) (by decide +kernel) (by decide +kernel) rfl
set_option maxRecDepth 20000 in
theorem mo_X10_way : mOKr mr_X10_way := mok_i (wt4 112 rfl rfl) (by decide +kernel) (wt1 1 rfl rfl) rfl (wt4 110 rfl rfl) (wt4 111 rfl rfl) (by decide +kernel) (by decide +kernel) rfl
set_option maxRecDepth 20000 in
theorem mo_X10_parts : mOKr mr_X10_parts := mok_i (wt4 120 rfl rfl) (by decide +kernel) (wt1 1 rfl rfl) rfl (wt4 118 rfl rfl) (wt4 119 rfl rfl) (by decide +kernel) (by decide +kernel) rfl
set_option maxRecDepth 20000 in
theorem mo_X10_worst : mOKr mr_X10_worst := mok_i (wt4 132 rfl rfl) (by decide +kernel) (wt1 1 rfl rfl) rfl (wt4 130 rfl rfl) (wt4 131 rfl rfl) (by decide +kernel) (by decide +kernel) rfl
set_option maxRecDepth 20000 in
theorem mo_X10_swing : mOKr mr_X10_swing := mok_i (wt4 136 rfl rfl) (by decide +kernel) (wt1 1 rfl rfl) rfl (wt4 134 rfl rfl) (wt4 135 rfl rfl) (by decide +kernel) (by decide +kernel) rfl
set_option maxRecDepth 20000 in
theorem mo_X10_swings : mOKr mr_X10_swings := mok_i (wt4 161 rfl rfl) (by decide +kernel) (wt1 1 rfl rfl) rfl (wt4 159 rfl rfl) (wt4 160 rfl rfl) (by decide +kernel) (by decide +kernel) rfl
set_option maxRecDepth 20000 in
theorem mo_X10_cut : mOKr mr_X10_cut := mok_i (wt4 174 rfl rfl) (by decide +kernel) (wt1 1 rfl rfl) rfl (wt4 172 rfl rfl) (wt4 173 rfl rfl) (by decide +kernel) (by decide +kernel) rfl
set_option maxRecDepth 20000 in
theorem mo_X10_echo : mOKr mr_X10_echo := mok_i (wt4 183 rfl rfl) (by decide +kernel) (wt1 1 rfl rfl) rfl (wt4 181 rfl rfl) (wt4 182 rfl rfl) (by decide +kernel) (by decide +kernel) rfl
set_option maxRecDepth 20000 in
theorem mo_X10_breakOf : mOKr mr_X10_breakOf := mok_i (wt4 203 rfl rfl) (by decide +kernel) (wt1 1 rfl rfl) rfl (wt4 201 rfl rfl) (wt4 202 rfl rfl) (by decide +kernel) (by decide +kernel) rfl
set_option maxRecDepth 20000 in
theorem mo_X10_quake : mOKr mr_X10_quake := mok_i (wt4 221 rfl rfl) (by decide +kernel) (wt1 1 rfl rfl) rfl (wt4 219 rfl rfl) (wt4 220 rfl rfl) (by decide +kernel) (by decide +kernel) rfl
set_option maxRecDepth 20000 in
theorem mo_X10_shared : mOKr mr_X10_shared := mok_i (wt4 239 rfl rfl) (by decide +kernel) (wt1 1 rfl rfl) rfl (wt4 237 rfl rfl) (wt4 238 rfl rfl) (by decide +kernel) (by decide +kernel) rfl
set_option maxRecDepth 20000 in
theorem mo_X10_ship : mOKr mr_X10_ship := mok_i (wt5 9 rfl rfl) (by decide +kernel) (wt1 1 rfl rfl) rfl (wt5 7 rfl rfl) (wt5 8 rfl rfl) (by decide +kernel) (by decide +kernel) rfl
set_option maxRecDepth 20000 in
theorem mo_X10_shipOf : mOKr mr_X10_shipOf := mok_i (wt5 17 rfl rfl) (by decide +kernel) (wt1 1 rfl rfl) rfl (wt5 15 rfl rfl) (wt5 16 rfl rfl) (by decide +kernel) (by decide +kernel) rfl
set_option maxRecDepth 20000 in
theorem mo_X10_send : mOKr mr_X10_send := mok_i (wt5 25 rfl rfl) (by decide +kernel) (wt1 1 rfl rfl) rfl (wt5 23 rfl rfl) (wt5 24 rfl rfl) (by decide +kernel) (by decide +kernel) rfl
set_option maxRecDepth 20000 in
theorem mo_X10_order : mOKr mr_X10_order := mok_i (wt5 65 rfl rfl) (by decide +kernel) (wt1 1 rfl rfl) rfl (wt5 63 rfl rfl) (wt5 64 rfl rfl) (by decide +kernel) (by decide +kernel) rfl
set_option maxRecDepth 20000 in
theorem mo_X10_plain : mOKr mr_X10_plain := mok_i (wt5 127 rfl rfl) (by decide +kernel) (wt1 1 rfl rfl) rfl (wt5 125 rfl rfl) (wt5 126 rfl rfl) (by decide +kernel) (by decide +kernel) rfl
set_option maxRecDepth 20000 in
theorem mo_X10_owed : mOKr mr_X10_owed := mok_i (wt5 157 rfl rfl) (by decide +kernel) (wt1 1 rfl rfl) rfl (wt5 155 rfl rfl) (wt5 156 rfl rfl) (by decide +kernel) (by decide +kernel) rfl
set_option maxRecDepth 20000 in
theorem mo_X10_paid : mOKr mr_X10_paid := mok_i (wt5 174 rfl rfl) (by decide +kernel) (wt1 1 rfl rfl) rfl (wt5 172 rfl rfl) (wt5 173 rfl rfl) (by decide +kernel) (by decide +kernel) rfl
set_option maxRecDepth 20000 in
theorem mo_X10_plan : mOKr mr_X10_plan := mok_i (wt5 178 rfl rfl) (by decide +kernel) (wt1 1 rfl rfl) rfl (wt5 176 rfl rfl) (wt5 177 rfl rfl) (by decide +kernel) (by decide +kernel) rfl
set_option maxRecDepth 20000 in
theorem mo_X10_safe : mOKr mr_X10_safe := mok_i (wt5 182 rfl rfl) (by decide +kernel) (wt1 1 rfl rfl) rfl (wt5 180 rfl rfl) (wt5 181 rfl rfl) (by decide +kernel) (by decide +kernel) rfl
set_option maxRecDepth 20000 in
theorem mo_X10_sheet : mOKr mr_X10_sheet := mok_i (wt5 228 rfl rfl) (by decide +kernel) (wt1 1 rfl rfl) rfl (wt5 226 rfl rfl) (wt5 227 rfl rfl) (by decide +kernel) (by decide +kernel) rfl
set_option maxRecDepth 20000 in
theorem mo_X10_lay : mOKr mr_X10_lay := mok_i (wt6 4 rfl rfl) (by decide +kernel) (wt1 1 rfl rfl) rfl (wt6 2 rfl rfl) (wt6 3 rfl rfl) (by decide +kernel) (by decide +kernel) rfl
set_option maxRecDepth 20000 in
theorem mo_X10_read : mOKr mr_X10_read := mok_i (wt6 20 rfl rfl) (by decide +kernel) (wt1 1 rfl rfl) rfl (wt6 18 rfl rfl) (wt6 19 rfl rfl) (by decide +kernel) (by decide +kernel) rfl
set_option maxRecDepth 20000 in
theorem mo_X10_count : mOKr mr_X10_count := mok_i (wt6 24 rfl rfl) (by decide +kernel) (wt1 1 rfl rfl) rfl (wt6 22 rfl rfl) (wt6 23 rfl rfl) (by decide +kernel) (by decide +kernel) rfl
set_option maxRecDepth 20000 in
theorem mo_X10_isWithin : mOKr mr_X10_isWithin := mok_s (wt3 52 rfl rfl) (by decide +kernel) (wt1 1 rfl rfl) rfl (wt3 51 rfl rfl) (by decide +kernel) (by decide +kernel) rfl
set_option maxRecDepth 20000 in
theorem mo_X10_areTwoLands : mOKr mr_X10_areTwoLands := mok_i (wt3 64 rfl rfl) (by decide +kernel) (wt1 1 rfl rfl) rfl (wt3 63 rfl rfl) (wq1 0 11 rfl) (by decide +kernel) (by decide +kernel) rfl
set_option maxRecDepth 20000 in
theorem mo_X10_coinsOf : mOKr mr_X10_coinsOf := mok_i (wt5 161 rfl rfl) (by decide +kernel) (wt1 1 rfl rfl) rfl (wt5 160 rfl rfl) (wq2 13 11 rfl) (by decide +kernel) (by decide +kernel) rfl
set_option maxRecDepth 20000 in
theorem mo_X11_in : mOKr mr_X11_in := mok_s (wt7 35 rfl rfl) (by decide +kernel) (wt1 15 rfl rfl) rfl (wt7 34 rfl rfl) (by decide +kernel) (by decide +kernel) rfl
set_option maxRecDepth 20000 in
theorem mo_X11_bits : mOKr mr_X11_bits := mok_s (wt8 107 rfl rfl) (by decide +kernel) (wt1 15 rfl rfl) rfl (wt8 106 rfl rfl) (by decide +kernel) (by decide +kernel) rfl
set_option maxRecDepth 20000 in
theorem mo_X11_plain1 : mOKr mr_X11_plain1 := mok_s (wt7 64 rfl rfl) (by decide +kernel) (wt1 15 rfl rfl) rfl (wt7 63 rfl rfl) (by decide +kernel) (by decide +kernel) rfl
set_option maxRecDepth 20000 in
theorem mo_X11_isLand : mOKr mr_X11_isLand := mok_i (wt7 43 rfl rfl) (by decide +kernel) (wt1 15 rfl rfl) rfl (wt7 42 rfl rfl) (wq3 8 74 rfl) (by decide +kernel) (by decide +kernel) rfl
set_option maxRecDepth 20000 in
theorem mo_X11_isLine : mOKr mr_X11_isLine := mok_i (wt7 53 rfl rfl) (by decide +kernel) (wt1 15 rfl rfl) rfl (wt7 52 rfl rfl) (wq3 9 74 rfl) (by decide +kernel) (by decide +kernel) rfl
set_option maxRecDepth 20000 in
theorem mo_X11_land : mOKr mr_X11_land := mok_i (wt7 31 rfl rfl) (by decide +kernel) (wt1 15 rfl rfl) rfl (wt7 29 rfl rfl) (wt7 30 rfl rfl) (by decide +kernel) (by decide +kernel) rfl
set_option maxRecDepth 20000 in
theorem mo_X11_line : mOKr mr_X11_line := mok_i (wt7 39 rfl rfl) (by decide +kernel) (wt1 15 rfl rfl) rfl (wt7 37 rfl rfl) (wt7 38 rfl rfl) (by decide +kernel) (by decide +kernel) rfl
set_option maxRecDepth 20000 in
theorem mo_X11_lengthOf : mOKr mr_X11_lengthOf := mok_i (wt7 61 rfl rfl) (by decide +kernel) (wt1 15 rfl rfl) rfl (wt7 60 rfl rfl) (wq3 11 74 rfl) (by decide +kernel) (by decide +kernel) rfl
set_option maxRecDepth 20000 in
theorem mo_X11_lightIn : mOKr mr_X11_lightIn := mok_i (wt7 57 rfl rfl) (by decide +kernel) (wt1 15 rfl rfl) rfl (wt7 56 rfl rfl) (wq3 10 74 rfl) (by decide +kernel) (by decide +kernel) rfl
set_option maxRecDepth 20000 in
theorem mo_X11_light : mOKr mr_X11_light := mok_i (wt7 49 rfl rfl) (by decide +kernel) (wt1 15 rfl rfl) rfl (wt7 47 rfl rfl) (wt7 48 rfl rfl) (by decide +kernel) (by decide +kernel) rfl
set_option maxRecDepth 20000 in
theorem mo_X11_until : mOKr mr_X11_until := mok_i (wt7 68 rfl rfl) (by decide +kernel) (wt1 15 rfl rfl) rfl (wt7 66 rfl rfl) (wt7 67 rfl rfl) (by decide +kernel) (by decide +kernel) rfl
set_option maxRecDepth 20000 in
theorem mo_X11_isOpen : mOKr mr_X11_isOpen := mok_i (wt7 85 rfl rfl) (by decide +kernel) (wt1 15 rfl rfl) rfl (wt7 84 rfl rfl) (wq3 14 74 rfl) (by decide +kernel) (by decide +kernel) rfl
set_option maxRecDepth 20000 in
theorem mo_X11_isCut : mOKr mr_X11_isCut := mok_i (wt7 81 rfl rfl) (by decide +kernel) (wt1 15 rfl rfl) rfl (wt7 80 rfl rfl) (wq3 13 74 rfl) (by decide +kernel) (by decide +kernel) rfl
set_option maxRecDepth 20000 in
theorem mo_X11_stateOf : mOKr mr_X11_stateOf := mok_i (wt7 77 rfl rfl) (by decide +kernel) (wt1 15 rfl rfl) rfl (wt7 76 rfl rfl) (wq3 12 74 rfl) (by decide +kernel) (by decide +kernel) rfl
set_option maxRecDepth 20000 in
theorem mo_X11_roomOf : mOKr mr_X11_roomOf := mok_i (wt7 89 rfl rfl) (by decide +kernel) (wt1 15 rfl rfl) rfl (wt7 88 rfl rfl) (wq3 15 74 rfl) (by decide +kernel) (by decide +kernel) rfl
set_option maxRecDepth 20000 in
theorem mo_X11_lineOf : mOKr mr_X11_lineOf := mok_i (wt7 72 rfl rfl) (by decide +kernel) (wt1 15 rfl rfl) rfl (wt7 70 rfl rfl) (wt7 71 rfl rfl) (by decide +kernel) (by decide +kernel) rfl
set_option maxRecDepth 20000 in
theorem mo_X11_change : mOKr mr_X11_change := mok_i (wt7 114 rfl rfl) (by decide +kernel) (wt1 15 rfl rfl) rfl (wt7 112 rfl rfl) (wt7 113 rfl rfl) (by decide +kernel) (by decide +kernel) rfl
set_option maxRecDepth 20000 in
theorem mo_X11_year : mOKr mr_X11_year := mok_i (wt7 118 rfl rfl) (by decide +kernel) (wt1 15 rfl rfl) rfl (wt7 116 rfl rfl) (wt7 117 rfl rfl) (by decide +kernel) (by decide +kernel) rfl
set_option maxRecDepth 20000 in
theorem mo_X11_hour : mOKr mr_X11_hour := mok_i (wt7 122 rfl rfl) (by decide +kernel) (wt1 15 rfl rfl) rfl (wt7 120 rfl rfl) (wt7 121 rfl rfl) (by decide +kernel) (by decide +kernel) rfl
set_option maxRecDepth 20000 in
theorem mo_X11_firstRules : mOKr mr_X11_firstRules := mok_i (wt6 43 rfl rfl) (by decide +kernel) (wt1 15 rfl rfl) rfl (wt6 42 rfl rfl) (wq3 7 74 rfl) (by decide +kernel) (by decide +kernel) rfl
set_option maxRecDepth 20000 in
theorem mo_X11_feed : mOKr mr_X11_feed := mok_i (wt7 127 rfl rfl) (by decide +kernel) (wt1 15 rfl rfl) rfl (wt7 125 rfl rfl) (wt7 126 rfl rfl) (by decide +kernel) (by decide +kernel) rfl
set_option maxRecDepth 20000 in
theorem mo_X11_end : mOKr mr_X11_end := mok_i (wt7 132 rfl rfl) (by decide +kernel) (wt1 15 rfl rfl) rfl (wt7 130 rfl rfl) (wt7 131 rfl rfl) (by decide +kernel) (by decide +kernel) rfl
set_option maxRecDepth 20000 in
theorem mo_X11_wants : mOKr mr_X11_wants := mok_i (wt7 152 rfl rfl) (by decide +kernel) (wt1 15 rfl rfl) rfl (wt7 151 rfl rfl) (wq4 7 74 rfl) (by decide +kernel) (by decide +kernel) rfl
set_option maxRecDepth 20000 in
theorem mo_X11_look : mOKr mr_X11_look := mok_i (wt7 144 rfl rfl) (by decide +kernel) (wt1 15 rfl rfl) rfl (wt7 143 rfl rfl) (wq4 6 74 rfl) (by decide +kernel) (by decide +kernel) rfl
set_option maxRecDepth 20000 in
theorem mo_X11_next : mOKr mr_X11_next := mok_i (wt7 140 rfl rfl) (by decide +kernel) (wt1 15 rfl rfl) rfl (wt7 139 rfl rfl) (wq4 5 74 rfl) (by decide +kernel) (by decide +kernel) rfl
set_option maxRecDepth 20000 in
theorem mo_X11_is : mOKr mr_X11_is := mok_i (wt7 164 rfl rfl) (by decide +kernel) (wt1 15 rfl rfl) rfl (wt7 163 rfl rfl) (wq4 10 74 rfl) (by decide +kernel) (by decide +kernel) rfl
set_option maxRecDepth 20000 in
theorem mo_X11_nameNow : mOKr mr_X11_nameNow := mok_i (wt7 160 rfl rfl) (by decide +kernel) (wt1 15 rfl rfl) rfl (wt7 159 rfl rfl) (wq4 9 74 rfl) (by decide +kernel) (by decide +kernel) rfl
set_option maxRecDepth 20000 in
theorem mo_X11_readNumber : mOKr mr_X11_readNumber := mok_i (wt7 173 rfl rfl) (by decide +kernel) (wt1 15 rfl rfl) rfl (wt7 172 rfl rfl) (wq4 12 74 rfl) (by decide +kernel) (by decide +kernel) rfl
set_option maxRecDepth 20000 in
theorem mo_X11_readName : mOKr mr_X11_readName := mok_i (wt7 177 rfl rfl) (by decide +kernel) (wt1 15 rfl rfl) rfl (wt7 176 rfl rfl) (wq4 13 74 rfl) (by decide +kernel) (by decide +kernel) rfl
set_option maxRecDepth 20000 in
theorem mo_X11_readRent : mOKr mr_X11_readRent := mok_i (wt7 168 rfl rfl) (by decide +kernel) (wt1 15 rfl rfl) rfl (wt7 167 rfl rfl) (wq4 11 74 rfl) (by decide +kernel) (by decide +kernel) rfl
set_option maxRecDepth 20000 in
theorem mo_X11_least : mOKr mr_X11_least := mok_s (wt7 180 rfl rfl) (by decide +kernel) (wt1 15 rfl rfl) rfl (wt7 179 rfl rfl) (by decide +kernel) (by decide +kernel) rfl
set_option maxRecDepth 20000 in
theorem mo_X11_most : mOKr mr_X11_most := mok_s (wt7 183 rfl rfl) (by decide +kernel) (wt1 15 rfl rfl) rfl (wt7 182 rfl rfl) (by decide +kernel) (by decide +kernel) rfl
set_option maxRecDepth 20000 in
theorem mo_X11_readLine : mOKr mr_X11_readLine := mok_i (wt7 156 rfl rfl) (by decide +kernel) (wt1 15 rfl rfl) rfl (wt7 155 rfl rfl) (wq4 8 74 rfl) (by decide +kernel) (by decide +kernel) rfl
set_option maxRecDepth 20000 in
theorem mo_X11_rules : mOKr mr_X11_rules := mok_i (wt7 136 rfl rfl) (by decide +kernel) (wt1 15 rfl rfl) rfl (wt7 134 rfl rfl) (wt7 135 rfl rfl) (by decide +kernel) (by decide +kernel) rfl
set_option maxRecDepth 20000 in
theorem mo_X11_fault : mOKr mr_X11_fault := mok_i (wt7 187 rfl rfl) (by decide +kernel) (wt1 15 rfl rfl) rfl (wt7 185 rfl rfl) (wt7 186 rfl rfl) (by decide +kernel) (by decide +kernel) rfl
set_option maxRecDepth 20000 in
theorem mo_X11_rule : mOKr mr_X11_rule := mok_i (wt7 191 rfl rfl) (by decide +kernel) (wt1 15 rfl rfl) rfl (wt7 189 rfl rfl) (wt7 190 rfl rfl) (by decide +kernel) (by decide +kernel) rfl
set_option maxRecDepth 20000 in
theorem mo_X11_rent : mOKr mr_X11_rent := mok_i (wt7 196 rfl rfl) (by decide +kernel) (wt1 15 rfl rfl) rfl (wt7 194 rfl rfl) (wt7 195 rfl rfl) (by decide +kernel) (by decide +kernel) rfl
set_option maxRecDepth 20000 in
theorem mo_X11_demand : mOKr mr_X11_demand := mok_i (wt7 201 rfl rfl) (by decide +kernel) (wt1 15 rfl rfl) rfl (wt7 199 rfl rfl) (wt7 200 rfl rfl) (by decide +kernel) (by decide +kernel) rfl
set_option maxRecDepth 20000 in
theorem mo_X11_isDemand : mOKr mr_X11_isDemand := mok_i (wt7 209 rfl rfl) (by decide +kernel) (wt1 15 rfl rfl) rfl (wt7 208 rfl rfl) (wq4 14 74 rfl) (by decide +kernel) (by decide +kernel) rfl
set_option maxRecDepth 20000 in
theorem mo_X11_much : mOKr mr_X11_much := mok_i (wt7 205 rfl rfl) (by decide +kernel) (wt1 15 rfl rfl) rfl (wt7 203 rfl rfl) (wt7 204 rfl rfl) (by decide +kernel) (by decide +kernel) rfl
set_option maxRecDepth 20000 in
theorem mo_X11_roomsNow : mOKr mr_X11_roomsNow := mok_i (wt7 93 rfl rfl) (by decide +kernel) (wt1 15 rfl rfl) rfl (wt7 92 rfl rfl) (wq4 0 74 rfl) (by decide +kernel) (by decide +kernel) rfl
set_option maxRecDepth 20000 in
theorem mo_X11_other : mOKr mr_X11_other := mok_i (wt7 106 rfl rfl) (by decide +kernel) (wt1 15 rfl rfl) rfl (wt7 105 rfl rfl) (wq4 3 74 rfl) (by decide +kernel) (by decide +kernel) rfl
set_option maxRecDepth 20000 in
theorem mo_X11_findWay : mOKr mr_X11_findWay := mok_i (wt7 101 rfl rfl) (by decide +kernel) (wt1 15 rfl rfl) rfl (wt7 100 rfl rfl) (wq4 2 74 rfl) (by decide +kernel) (by decide +kernel) rfl
set_option maxRecDepth 20000 in
theorem mo_X11_leads : mOKr mr_X11_leads := mok_i (wt7 97 rfl rfl) (by decide +kernel) (wt1 15 rfl rfl) rfl (wt7 96 rfl rfl) (wq4 1 74 rfl) (by decide +kernel) (by decide +kernel) rfl
set_option maxRecDepth 20000 in
theorem mo_X11_aheadOf : mOKr mr_X11_aheadOf := mok_i (wt7 110 rfl rfl) (by decide +kernel) (wt1 15 rfl rfl) rfl (wt7 109 rfl rfl) (wq4 4 74 rfl) (by decide +kernel) (by decide +kernel) rfl
set_option maxRecDepth 20000 in
theorem mo_X11_led : mOKr mr_X11_led := mok_i (wt7 213 rfl rfl) (by decide +kernel) (wt1 15 rfl rfl) rfl (wt7 211 rfl rfl) (wt7 212 rfl rfl) (by decide +kernel) (by decide +kernel) rfl
set_option maxRecDepth 20000 in
theorem mo_X11_way : mOKr mr_X11_way := mok_i (wt7 218 rfl rfl) (by decide +kernel) (wt1 15 rfl rfl) rfl (wt7 216 rfl rfl) (wt7 217 rfl rfl) (by decide +kernel) (by decide +kernel) rfl
set_option maxRecDepth 20000 in
theorem mo_X11_partsBy : mOKr mr_X11_partsBy := mok_i (wt7 227 rfl rfl) (by decide +kernel) (wt1 15 rfl rfl) rfl (wt7 226 rfl rfl) (wq4 15 74 rfl) (by decide +kernel) (by decide +kernel) rfl
set_option maxRecDepth 20000 in
theorem mo_X11_parts : mOKr mr_X11_parts := mok_i (wt7 222 rfl rfl) (by decide +kernel) (wt1 15 rfl rfl) rfl (wt7 220 rfl rfl) (wt7 221 rfl rfl) (by decide +kernel) (by decide +kernel) rfl
set_option maxRecDepth 20000 in
theorem mo_X11_worst : mOKr mr_X11_worst := mok_i (wt7 231 rfl rfl) (by decide +kernel) (wt1 15 rfl rfl) rfl (wt7 229 rfl rfl) (wt7 230 rfl rfl) (by decide +kernel) (by decide +kernel) rfl
set_option maxRecDepth 20000 in
theorem mo_X11_swingsOnce : mOKr mr_X11_swingsOnce := mok_i (wt8 0 rfl rfl) (by decide +kernel) (wt1 15 rfl rfl) rfl (wt7 239 rfl rfl) (wq5 0 74 rfl) (by decide +kernel) (by decide +kernel) rfl
set_option maxRecDepth 20000 in
theorem mo_X11_swing : mOKr mr_X11_swing := mok_i (wt7 235 rfl rfl) (by decide +kernel) (wt1 15 rfl rfl) rfl (wt7 233 rfl rfl) (wt7 234 rfl rfl) (by decide +kernel) (by decide +kernel) rfl
set_option maxRecDepth 20000 in
theorem mo_X11_areAlike : mOKr mr_X11_areAlike := mok_i (wt8 9 rfl rfl) (by decide +kernel) (wt1 15 rfl rfl) rfl (wt8 8 rfl rfl) (wq5 1 74 rfl) (by decide +kernel) (by decide +kernel) rfl
set_option maxRecDepth 20000 in
theorem mo_X11_swings : mOKr mr_X11_swings := mok_i (wt8 4 rfl rfl) (by decide +kernel) (wt1 15 rfl rfl) rfl (wt8 2 rfl rfl) (wt8 3 rfl rfl) (by decide +kernel) (by decide +kernel) rfl
set_option maxRecDepth 20000 in
theorem mo_X11_isBreak : mOKr mr_X11_isBreak := mok_i (wt8 21 rfl rfl) (by decide +kernel) (wt1 15 rfl rfl) rfl (wt8 20 rfl rfl) (wq5 2 74 rfl) (by decide +kernel) (by decide +kernel) rfl
set_option maxRecDepth 20000 in
theorem mo_X11_cut : mOKr mr_X11_cut := mok_i (wt8 13 rfl rfl) (by decide +kernel) (wt1 15 rfl rfl) rfl (wt8 11 rfl rfl) (wt8 12 rfl rfl) (by decide +kernel) (by decide +kernel) rfl
set_option maxRecDepth 20000 in
theorem mo_X11_echo : mOKr mr_X11_echo := mok_i (wt8 17 rfl rfl) (by decide +kernel) (wt1 15 rfl rfl) rfl (wt8 15 rfl rfl) (wt8 16 rfl rfl) (by decide +kernel) (by decide +kernel) rfl
set_option maxRecDepth 20000 in
theorem mo_X11_xAt : mOKr mr_X11_xAt := mok_i (wt8 30 rfl rfl) (by decide +kernel) (wt1 15 rfl rfl) rfl (wt8 29 rfl rfl) (wq5 3 74 rfl) (by decide +kernel) (by decide +kernel) rfl
set_option maxRecDepth 20000 in
theorem mo_X11_yAt : mOKr mr_X11_yAt := mok_i (wt8 34 rfl rfl) (by decide +kernel) (wt1 15 rfl rfl) rfl (wt8 33 rfl rfl) (wq5 4 74 rfl) (by decide +kernel) (by decide +kernel) rfl
set_option maxRecDepth 20000 in
theorem mo_X11_breakOf : mOKr mr_X11_breakOf := mok_i (wt8 26 rfl rfl) (by decide +kernel) (wt1 15 rfl rfl) rfl (wt8 24 rfl rfl) (wt8 25 rfl rfl) (by decide +kernel) (by decide +kernel) rfl
set_option maxRecDepth 20000 in
theorem mo_X11_quake : mOKr mr_X11_quake := mok_i (wt8 38 rfl rfl) (by decide +kernel) (wt1 15 rfl rfl) rfl (wt8 36 rfl rfl) (wt8 37 rfl rfl) (by decide +kernel) (by decide +kernel) rfl
set_option maxRecDepth 20000 in
theorem mo_X11_shared : mOKr mr_X11_shared := mok_i (wt8 42 rfl rfl) (by decide +kernel) (wt1 15 rfl rfl) rfl (wt8 40 rfl rfl) (wt8 41 rfl rfl) (by decide +kernel) (by decide +kernel) rfl
set_option maxRecDepth 20000 in
theorem mo_X11_ship : mOKr mr_X11_ship := mok_i (wt8 46 rfl rfl) (by decide +kernel) (wt1 15 rfl rfl) rfl (wt8 44 rfl rfl) (wt8 45 rfl rfl) (by decide +kernel) (by decide +kernel) rfl
set_option maxRecDepth 20000 in
theorem mo_X11_isShip : mOKr mr_X11_isShip := mok_i (wt8 54 rfl rfl) (by decide +kernel) (wt1 15 rfl rfl) rfl (wt8 53 rfl rfl) (wq5 5 74 rfl) (by decide +kernel) (by decide +kernel) rfl
set_option maxRecDepth 20000 in
theorem mo_X11_shipOf : mOKr mr_X11_shipOf := mok_i (wt8 50 rfl rfl) (by decide +kernel) (wt1 15 rfl rfl) rfl (wt8 48 rfl rfl) (wt8 49 rfl rfl) (by decide +kernel) (by decide +kernel) rfl
set_option maxRecDepth 20000 in
theorem mo_X11_takesReel : mOKr mr_X11_takesReel := mok_i (wt8 67 rfl rfl) (by decide +kernel) (wt1 15 rfl rfl) rfl (wt8 66 rfl rfl) (wq5 7 74 rfl) (by decide +kernel) (by decide +kernel) rfl
set_option maxRecDepth 20000 in
theorem mo_X11_mayDo : mOKr mr_X11_mayDo := mok_i (wt8 63 rfl rfl) (by decide +kernel) (wt1 15 rfl rfl) rfl (wt8 62 rfl rfl) (wq5 6 74 rfl) (by decide +kernel) (by decide +kernel) rfl
set_option maxRecDepth 20000 in
theorem mo_X11_hoursTo : mOKr mr_X11_hoursTo := mok_i (wt8 75 rfl rfl) (by decide +kernel) (wt1 15 rfl rfl) rfl (wt8 74 rfl rfl) (wq5 9 74 rfl) (by decide +kernel) (by decide +kernel) rfl
set_option maxRecDepth 20000 in
theorem mo_X11_startOf : mOKr mr_X11_startOf := mok_i (wt8 71 rfl rfl) (by decide +kernel) (wt1 15 rfl rfl) rfl (wt8 70 rfl rfl) (wq5 8 74 rfl) (by decide +kernel) (by decide +kernel) rfl
set_option maxRecDepth 20000 in
theorem mo_X11_send : mOKr mr_X11_send := mok_i (wt8 59 rfl rfl) (by decide +kernel) (wt1 15 rfl rfl) rfl (wt8 57 rfl rfl) (wt8 58 rfl rfl) (by decide +kernel) (by decide +kernel) rfl
set_option maxRecDepth 20000 in
theorem mo_X11_findListed : mOKr mr_X11_findListed := mok_i (wt8 83 rfl rfl) (by decide +kernel) (wt1 15 rfl rfl) rfl (wt8 82 rfl rfl) (wq5 10 74 rfl) (by decide +kernel) (by decide +kernel) rfl
set_option maxRecDepth 20000 in
theorem mo_X11_weightOf : mOKr mr_X11_weightOf := mok_i (wt8 96 rfl rfl) (by decide +kernel) (wt1 15 rfl rfl) rfl (wt8 95 rfl rfl) (wq5 13 74 rfl) (by decide +kernel) (by decide +kernel) rfl
set_option maxRecDepth 20000 in
theorem mo_X11_costBy : mOKr mr_X11_costBy := mok_i (wt8 91 rfl rfl) (by decide +kernel) (wt1 15 rfl rfl) rfl (wt8 90 rfl rfl) (wq5 12 74 rfl) (by decide +kernel) (by decide +kernel) rfl
set_option maxRecDepth 20000 in
theorem mo_X11_legOf : mOKr mr_X11_legOf := mok_i (wt8 100 rfl rfl) (by decide +kernel) (wt1 15 rfl rfl) rfl (wt8 99 rfl rfl) (wq5 14 74 rfl) (by decide +kernel) (by decide +kernel) rfl
set_option maxRecDepth 20000 in
theorem mo_X11_findOrder : mOKr mr_X11_findOrder := mok_i (wt8 87 rfl rfl) (by decide +kernel) (wt1 15 rfl rfl) rfl (wt8 86 rfl rfl) (wq5 11 74 rfl) (by decide +kernel) (by decide +kernel) rfl
set_option maxRecDepth 20000 in
theorem mo_X11_order : mOKr mr_X11_order := mok_i (wt8 79 rfl rfl) (by decide +kernel) (wt1 15 rfl rfl) rfl (wt8 77 rfl rfl) (wt8 78 rfl rfl) (by decide +kernel) (by decide +kernel) rfl
set_option maxRecDepth 20000 in
theorem mo_X11_plain : mOKr mr_X11_plain := mok_i (wt8 104 rfl rfl) (by decide +kernel) (wt1 15 rfl rfl) rfl (wt8 102 rfl rfl) (wt8 103 rfl rfl) (by decide +kernel) (by decide +kernel) rfl
set_option maxRecDepth 20000 in
theorem mo_X11_wasOpen : mOKr mr_X11_wasOpen := mok_i (wt8 119 rfl rfl) (by decide +kernel) (wt1 15 rfl rfl) rfl (wt8 118 rfl rfl) (wq6 0 74 rfl) (by decide +kernel) (by decide +kernel) rfl
set_option maxRecDepth 20000 in
theorem mo_X11_coins : mOKr mr_X11_coins := mok_i (wt8 115 rfl rfl) (by decide +kernel) (wt1 15 rfl rfl) rfl (wt8 114 rfl rfl) (wq5 15 74 rfl) (by decide +kernel) (by decide +kernel) rfl
set_option maxRecDepth 20000 in
theorem mo_X11_owed : mOKr mr_X11_owed := mok_i (wt8 111 rfl rfl) (by decide +kernel) (wt1 15 rfl rfl) rfl (wt8 109 rfl rfl) (wt8 110 rfl rfl) (by decide +kernel) (by decide +kernel) rfl
set_option maxRecDepth 20000 in
theorem mo_X11_paid : mOKr mr_X11_paid := mok_i (wt8 123 rfl rfl) (by decide +kernel) (wt1 15 rfl rfl) rfl (wt8 121 rfl rfl) (wt8 122 rfl rfl) (by decide +kernel) (by decide +kernel) rfl
set_option maxRecDepth 20000 in
theorem mo_X11_plan : mOKr mr_X11_plan := mok_i (wt8 127 rfl rfl) (by decide +kernel) (wt1 15 rfl rfl) rfl (wt8 125 rfl rfl) (wt8 126 rfl rfl) (by decide +kernel) (by decide +kernel) rfl
set_option maxRecDepth 20000 in
theorem mo_X11_areJoined : mOKr mr_X11_areJoined := mok_i (wt8 139 rfl rfl) (by decide +kernel) (wt1 15 rfl rfl) rfl (wt8 138 rfl rfl) (wq6 2 74 rfl) (by decide +kernel) (by decide +kernel) rfl
set_option maxRecDepth 20000 in
theorem mo_X11_isSafe : mOKr mr_X11_isSafe := mok_i (wt8 135 rfl rfl) (by decide +kernel) (wt1 15 rfl rfl) rfl (wt8 134 rfl rfl) (wq6 1 74 rfl) (by decide +kernel) (by decide +kernel) rfl
set_option maxRecDepth 20000 in
theorem mo_X11_safe : mOKr mr_X11_safe := mok_i (wt8 131 rfl rfl) (by decide +kernel) (wt1 15 rfl rfl) rfl (wt8 129 rfl rfl) (wt8 130 rfl rfl) (by decide +kernel) (by decide +kernel) rfl
set_option maxRecDepth 20000 in
theorem mo_X11_isSheet : mOKr mr_X11_isSheet := mok_s (wt8 146 rfl rfl) (by decide +kernel) (wt1 15 rfl rfl) rfl (wt8 145 rfl rfl) (by decide +kernel) (by decide +kernel) rfl
set_option maxRecDepth 20000 in
theorem mo_X11_sheet : mOKr mr_X11_sheet := mok_i (wt8 143 rfl rfl) (by decide +kernel) (wt1 15 rfl rfl) rfl (wt8 141 rfl rfl) (wt8 142 rfl rfl) (by decide +kernel) (by decide +kernel) rfl
set_option maxRecDepth 20000 in
theorem mo_X11_lay : mOKr mr_X11_lay := mok_i (wt8 150 rfl rfl) (by decide +kernel) (wt1 15 rfl rfl) rfl (wt8 148 rfl rfl) (wt8 149 rfl rfl) (by decide +kernel) (by decide +kernel) rfl
set_option maxRecDepth 20000 in
theorem mo_X11_read : mOKr mr_X11_read := mok_i (wt8 154 rfl rfl) (by decide +kernel) (wt1 15 rfl rfl) rfl (wt8 152 rfl rfl) (wt8 153 rfl rfl) (by decide +kernel) (by decide +kernel) rfl
set_option maxRecDepth 20000 in
theorem mo_X11_count : mOKr mr_X11_count := mok_i (wt8 158 rfl rfl) (by decide +kernel) (wt1 15 rfl rfl) rfl (wt8 156 rfl rfl) (wt8 157 rfl rfl) (by decide +kernel) (by decide +kernel) rfl
set_option maxRecDepth 20000 in
theorem mo_J0_length_8abf5 : mOKr mr_J0_length_8abf5 := mok_i (wt3 223 rfl rfl) (by decide +kernel) (wt1 16 rfl rfl) rfl (wt3 221 rfl rfl) (wt3 222 rfl rfl) (by decide +kernel) (by decide +kernel) rfl
set_option maxRecDepth 20000 in
theorem mo_J0_charAt_5068e : mOKr mr_J0_charAt_5068e := mok_i (wt3 233 rfl rfl) (by decide +kernel) (wt1 16 rfl rfl) rfl (wt3 231 rfl rfl) (wt3 232 rfl rfl) (by decide +kernel) (by decide +kernel) rfl
set_option maxRecDepth 20000 in
theorem mo_J0_coder_7d493 : mOKr mr_J0_coder_7d493 := mok_i (wt3 227 rfl rfl) (by decide +kernel) (wt1 16 rfl rfl) rfl (wt3 225 rfl rfl) (wt3 226 rfl rfl) (by decide +kernel) (by decide +kernel) rfl
set_option maxRecDepth 20000 in
theorem mo_J0_isLatin1_aae02 : mOKr mr_J0_isLatin1_aae02 := mok_i (wt3 237 rfl rfl) (by decide +kernel) (wt1 16 rfl rfl) rfl (wt3 235 rfl rfl) (wt3 236 rfl rfl) (by decide +kernel) (by decide +kernel) rfl
set_option maxRecDepth 20000 in
theorem mo_J0_checkIndex_df160 : mOKr mr_J0_checkIndex_df160 := mok_s (wt4 3 rfl rfl) (by decide +kernel) (wt1 16 rfl rfl) rfl (wt4 2 rfl rfl) (by decide +kernel) (by decide +kernel) rfl
set_option maxRecDepth 20000 in
theorem mo_J1_charAt_3b067 : mOKr mr_J1_charAt_3b067 := mok_s (wt4 0 rfl rfl) (by decide +kernel) (wt1 17 rfl rfl) rfl (wt3 239 rfl rfl) (by decide +kernel) (by decide +kernel) rfl
set_option maxRecDepth 20000 in
theorem mo_J3_checkIndex_8e157 : mOKr mr_J3_checkIndex_8e157 := mok_s (wt4 8 rfl rfl) (by decide +kernel) (wt1 18 rfl rfl) rfl (wt4 7 rfl rfl) (by decide +kernel) (by decide +kernel) rfl
set_option maxRecDepth 20000 in
theorem mo_J6_numberOfTrailingZeros_0f7a4 : mOKr mr_J6_numberOfTrailingZeros_0f7a4 := mok_s (wt5 201 rfl rfl) (by decide +kernel) (wt1 20 rfl rfl) rfl (wt5 200 rfl rfl) (by decide +kernel) (by decide +kernel) rfl
set_option maxRecDepth 20000 in
theorem mo_J6_bitCount_0f7a4 : mOKr mr_J6_bitCount_0f7a4 := mok_s (wt5 150 rfl rfl) (by decide +kernel) (wt1 20 rfl rfl) rfl (wt5 149 rfl rfl) (by decide +kernel) (by decide +kernel) rfl
set_option maxRecDepth 20000 in
theorem mo_J7_fill_53178 : mOKr mr_J7_fill_53178 := mok_s (wt2 238 rfl rfl) (by decide +kernel) (wt1 14 rfl rfl) rfl (wt2 237 rfl rfl) (by decide +kernel) (by decide +kernel) rfl
def mDec (q : mRec) : Prop := (q.1.all fun z => decide (decode q.2.1 z.1 = .ok z.2)) = true
theorem mc_X0_has : mDec mr_X0_has := kd_X0_has
theorem mc_X0_add : mDec mr_X0_add := kd_X0_add
theorem mc_X0_narrow : mDec mr_X0_narrow := kd_X0_narrow
theorem mc_X0_isInHands : mDec mr_X0_isInHands := kd_X0_isInHands
theorem mc_X0_isOpen : mDec mr_X0_isOpen := kd_X0_isOpen
theorem mc_X0_openOnes : mDec mr_X0_openOnes := kd_X0_openOnes
theorem mc_X0_isCut : mDec mr_X0_isCut := kd_X0_isCut
theorem mc_X0_stateOf : mDec mr_X0_stateOf := kd_X0_stateOf
theorem mc_X0_litLines : mDec mr_X0_litLines := kd_X0_litLines
theorem mc_X0_roomOf : mDec mr_X0_roomOf := kd_X0_roomOf
theorem mc_X0_farFrom : mDec mr_X0_farFrom := kd_X0_farFrom
theorem mc_X0_farFromRow : mDec mr_X0_farFromRow := kd_X0_farFromRow
theorem mc_X0_gap : mDec mr_X0_gap := kd_X0_gap
theorem mc_X0_couldShare : mDec mr_X0_couldShare := kd_X0_couldShare
theorem mc_X0_downHours : mDec mr_X0_downHours := kd_X0_downHours
theorem mc_X0_nextDown : mDec mr_X0_nextDown := kd_X0_nextDown
theorem mc_X1_has : mDec mr_X1_has := kd_X1_has
theorem mc_X1_add : mDec mr_X1_add := kd_X1_add
theorem mc_X1_hasLeave : mDec mr_X1_hasLeave := kd_X1_hasLeave
theorem mc_X1_reelFor : mDec mr_X1_reelFor := kd_X1_reelFor
theorem mc_X1_placeX : mDec mr_X1_placeX := kd_X1_placeX
theorem mc_X1_placeY : mDec mr_X1_placeY := kd_X1_placeY
theorem mc_X1_hoursTo : mDec mr_X1_hoursTo := kd_X1_hoursTo
theorem mc_X1_mayMend : mDec mr_X1_mayMend := kd_X1_mayMend
theorem mc_X1_beginsIn : mDec mr_X1_beginsIn := kd_X1_beginsIn
theorem mc_X1_takeInHands : mDec mr_X1_takeInHands := kd_X1_takeInHands
theorem mc_X2_gather : mDec mr_X2_gather := kd_X2_gather
theorem mc_X2_jobBits : mDec mr_X2_jobBits := kd_X2_jobBits
theorem mc_X2_weigh : mDec mr_X2_weigh := kd_X2_weigh
theorem mc_X2_measure : mDec mr_X2_measure := kd_X2_measure
theorem mc_X2_weightOf : mDec mr_X2_weightOf := kd_X2_weightOf
theorem mc_X2_costFrom : mDec mr_X2_costFrom := kd_X2_costFrom
theorem mc_X2_costFor : mDec mr_X2_costFor := kd_X2_costFor
theorem mc_X2_findBest : mDec mr_X2_findBest := kd_X2_findBest
theorem mc_X2_costOfParting : mDec mr_X2_costOfParting := kd_X2_costOfParting
theorem mc_X2_nextParting : mDec mr_X2_nextParting := kd_X2_nextParting
theorem mc_X2_bestShipOf : mDec mr_X2_bestShipOf := kd_X2_bestShipOf
theorem mc_X2_goPlainly : mDec mr_X2_goPlainly := kd_X2_goPlainly
theorem mc_X2_firstFree : mDec mr_X2_firstFree := kd_X2_firstFree
theorem mc_X2_soonestFor : mDec mr_X2_soonestFor := kd_X2_soonestFor
theorem mc_X2_doPlainly : mDec mr_X2_doPlainly := kd_X2_doPlainly
theorem mc_X2_plainLeft : mDec mr_X2_plainLeft := kd_X2_plainLeft
theorem mc_X3_hasLand : mDec mr_X3_hasLand := kd_X3_hasLand
theorem mc_X3_hasLine : mDec mr_X3_hasLine := kd_X3_hasLine
theorem mc_X3_addLand : mDec mr_X3_addLand := kd_X3_addLand
theorem mc_X3_addLine : mDec mr_X3_addLine := kd_X3_addLine
theorem mc_X3_lightIn : mDec mr_X3_lightIn := kd_X3_lightIn
theorem mc_X3_isBright : mDec mr_X3_isBright := kd_X3_isBright
theorem mc_X3_fullRoom : mDec mr_X3_fullRoom := kd_X3_fullRoom
theorem mc_X3_otherEnd : mDec mr_X3_otherEnd := kd_X3_otherEnd
theorem mc_X3_stepsAlongX : mDec mr_X3_stepsAlongX := kd_X3_stepsAlongX
theorem mc_X3_placeX : mDec mr_X3_placeX := kd_X3_placeX
theorem mc_X3_placeY : mDec mr_X3_placeY := kd_X3_placeY
theorem mc_X4_takeBytes : mDec mr_X4_takeBytes := kd_X4_takeBytes
theorem mc_X4_keepFirst : mDec mr_X4_keepFirst := kd_X4_keepFirst
theorem mc_X4_tell : mDec mr_X4_tell := kd_X4_tell
theorem mc_X4_readLine : mDec mr_X4_readLine := kd_X4_readLine
theorem mc_X4_readRent : mDec mr_X4_readRent := kd_X4_readRent
theorem mc_X4_readHouse : mDec mr_X4_readHouse := kd_X4_readHouse
theorem mc_X4_readWord : mDec mr_X4_readWord := kd_X4_readWord
theorem mc_X4_readStop : mDec mr_X4_readStop := kd_X4_readStop
theorem mc_X4_readNumber : mDec mr_X4_readNumber := kd_X4_readNumber
theorem mc_X4_fail : mDec mr_X4_fail := kd_X4_fail
theorem mc_X4_nextToken : mDec mr_X4_nextToken := kd_X4_nextToken
theorem mc_X4_nextNumber : mDec mr_X4_nextNumber := kd_X4_nextNumber
theorem mc_X4_isWord : mDec mr_X4_isWord := kd_X4_isWord
theorem mc_X4_ruleNamed : mDec mr_X4_ruleNamed := kd_X4_ruleNamed
theorem mc_X4_nameOf : mDec mr_X4_nameOf := kd_X4_nameOf
theorem mc_X5_setAtFirst : mDec mr_X5_setAtFirst := kd_X5_setAtFirst
theorem mc_X5_copyFrom : mDec mr_X5_copyFrom := kd_X5_copyFrom
theorem mc_X6_findBest : mDec mr_X6_findBest := kd_X6_findBest
theorem mc_X6_isBetter : mDec mr_X6_isBetter := kd_X6_isBetter
theorem mc_X6_coinsOf : mDec mr_X6_coinsOf := kd_X6_coinsOf
theorem mc_X6_isSafe : mDec mr_X6_isSafe := kd_X6_isSafe
theorem mc_X6_gatherTies : mDec mr_X6_gatherTies := kd_X6_gatherTies
theorem mc_X6_addTie : mDec mr_X6_addTie := kd_X6_addTie
theorem mc_X6_areJoinedWell : mDec mr_X6_areJoinedWell := kd_X6_areJoinedWell
theorem mc_X6_spread : mDec mr_X6_spread := kd_X6_spread
theorem mc_X6_giveBack : mDec mr_X6_giveBack := kd_X6_giveBack
theorem mc_X7_has : mDec mr_X7_has := kd_X7_has
theorem mc_X7_isLane : mDec mr_X7_isLane := kd_X7_isLane
theorem mc_X7_isNothing : mDec mr_X7_isNothing := kd_X7_isNothing
theorem mc_X7_hasCell : mDec mr_X7_hasCell := kd_X7_hasCell
theorem mc_X7_begin : mDec mr_X7_begin := kd_X7_begin
theorem mc_X7_put : mDec mr_X7_put := kd_X7_put
theorem mc_X8_has : mDec mr_X8_has := kd_X8_has
theorem mc_X8_add : mDec mr_X8_add := kd_X8_add
theorem mc_X9_keepRooms : mDec mr_X9_keepRooms := kd_X9_keepRooms
theorem mc_X9_goesBy : mDec mr_X9_goesBy := kd_X9_goesBy
theorem mc_X9_ahead : mDec mr_X9_ahead := kd_X9_ahead
theorem mc_X9_lead : mDec mr_X9_lead := kd_X9_lead
theorem mc_X9_leadOne : mDec mr_X9_leadOne := kd_X9_leadOne
theorem mc_X9_stepOf : mDec mr_X9_stepOf := kd_X9_stepOf
theorem mc_X9_measureTo : mDec mr_X9_measureTo := kd_X9_measureTo
theorem mc_X9_follow : mDec mr_X9_follow := kd_X9_follow
theorem mc_X9_leastStep : mDec mr_X9_leastStep := kd_X9_leastStep
theorem mc_X9_heapsWithout : mDec mr_X9_heapsWithout := kd_X9_heapsWithout
theorem mc_X9_joinHeaps : mDec mr_X9_joinHeaps := kd_X9_joinHeaps
theorem mc_X9_swingUntilBack : mDec mr_X9_swingUntilBack := kd_X9_swingUntilBack
theorem mc_X9_sameTurn : mDec mr_X9_sameTurn := kd_X9_sameTurn
theorem mc_X9_areLike : mDec mr_X9_areLike := kd_X9_areLike
theorem mc_X9_chooseAll : mDec mr_X9_chooseAll := kd_X9_chooseAll
theorem mc_X9_chooseTo : mDec mr_X9_chooseTo := kd_X9_chooseTo
theorem mc_X9_greatestLoad : mDec mr_X9_greatestLoad := kd_X9_greatestLoad
theorem mc_X9_overfull : mDec mr_X9_overfull := kd_X9_overfull
theorem mc_X10_land : mDec mr_X10_land := kd_X10_land
theorem mc_X10_line : mDec mr_X10_line := kd_X10_line
theorem mc_X10_lineOf : mDec mr_X10_lineOf := kd_X10_lineOf
theorem mc_X10_light : mDec mr_X10_light := kd_X10_light
theorem mc_X10_until : mDec mr_X10_until := kd_X10_until
theorem mc_X10_change : mDec mr_X10_change := kd_X10_change
theorem mc_X10_year : mDec mr_X10_year := kd_X10_year
theorem mc_X10_hour : mDec mr_X10_hour := kd_X10_hour
theorem mc_X10_feed : mDec mr_X10_feed := kd_X10_feed
theorem mc_X10_end : mDec mr_X10_end := kd_X10_end
theorem mc_X10_rules : mDec mr_X10_rules := kd_X10_rules
theorem mc_X10_fault : mDec mr_X10_fault := kd_X10_fault
theorem mc_X10_rule : mDec mr_X10_rule := kd_X10_rule
theorem mc_X10_rent : mDec mr_X10_rent := kd_X10_rent
theorem mc_X10_demand : mDec mr_X10_demand := kd_X10_demand
theorem mc_X10_much : mDec mr_X10_much := kd_X10_much
theorem mc_X10_led : mDec mr_X10_led := kd_X10_led
theorem mc_X10_way : mDec mr_X10_way := kd_X10_way
theorem mc_X10_parts : mDec mr_X10_parts := kd_X10_parts
theorem mc_X10_worst : mDec mr_X10_worst := kd_X10_worst
theorem mc_X10_swing : mDec mr_X10_swing := kd_X10_swing
theorem mc_X10_swings : mDec mr_X10_swings := kd_X10_swings
theorem mc_X10_cut : mDec mr_X10_cut := kd_X10_cut
theorem mc_X10_echo : mDec mr_X10_echo := kd_X10_echo
theorem mc_X10_breakOf : mDec mr_X10_breakOf := kd_X10_breakOf
theorem mc_X10_quake : mDec mr_X10_quake := kd_X10_quake
theorem mc_X10_shared : mDec mr_X10_shared := kd_X10_shared
theorem mc_X10_ship : mDec mr_X10_ship := kd_X10_ship
theorem mc_X10_shipOf : mDec mr_X10_shipOf := kd_X10_shipOf
theorem mc_X10_send : mDec mr_X10_send := kd_X10_send
theorem mc_X10_order : mDec mr_X10_order := kd_X10_order
theorem mc_X10_plain : mDec mr_X10_plain := kd_X10_plain
theorem mc_X10_owed : mDec mr_X10_owed := kd_X10_owed
theorem mc_X10_paid : mDec mr_X10_paid := kd_X10_paid
theorem mc_X10_plan : mDec mr_X10_plan := kd_X10_plan
theorem mc_X10_safe : mDec mr_X10_safe := kd_X10_safe
theorem mc_X10_sheet : mDec mr_X10_sheet := kd_X10_sheet
theorem mc_X10_lay : mDec mr_X10_lay := kd_X10_lay
theorem mc_X10_read : mDec mr_X10_read := kd_X10_read
theorem mc_X10_count : mDec mr_X10_count := kd_X10_count
theorem mc_X10_isWithin : mDec mr_X10_isWithin := kd_X10_isWithin
theorem mc_X10_areTwoLands : mDec mr_X10_areTwoLands := kd_X10_areTwoLands
theorem mc_X10_coinsOf : mDec mr_X10_coinsOf := kd_X10_coinsOf
theorem mc_X11_in : mDec mr_X11_in := kd_X11_in
theorem mc_X11_bits : mDec mr_X11_bits := kd_X11_bits
theorem mc_X11_plain1 : mDec mr_X11_plain1 := kd_X11_plain1
theorem mc_X11_isLand : mDec mr_X11_isLand := kd_X11_isLand
theorem mc_X11_isLine : mDec mr_X11_isLine := kd_X11_isLine
theorem mc_X11_land : mDec mr_X11_land := kd_X11_land
theorem mc_X11_line : mDec mr_X11_line := kd_X11_line
theorem mc_X11_lengthOf : mDec mr_X11_lengthOf := kd_X11_lengthOf
theorem mc_X11_lightIn : mDec mr_X11_lightIn := kd_X11_lightIn
theorem mc_X11_light : mDec mr_X11_light := kd_X11_light
theorem mc_X11_until : mDec mr_X11_until := kd_X11_until
theorem mc_X11_isOpen : mDec mr_X11_isOpen := kd_X11_isOpen
theorem mc_X11_isCut : mDec mr_X11_isCut := kd_X11_isCut
theorem mc_X11_stateOf : mDec mr_X11_stateOf := kd_X11_stateOf
theorem mc_X11_roomOf : mDec mr_X11_roomOf := kd_X11_roomOf
theorem mc_X11_lineOf : mDec mr_X11_lineOf := kd_X11_lineOf
theorem mc_X11_change : mDec mr_X11_change := kd_X11_change
theorem mc_X11_year : mDec mr_X11_year := kd_X11_year
theorem mc_X11_hour : mDec mr_X11_hour := kd_X11_hour
theorem mc_X11_firstRules : mDec mr_X11_firstRules := kd_X11_firstRules
theorem mc_X11_feed : mDec mr_X11_feed := kd_X11_feed
theorem mc_X11_end : mDec mr_X11_end := kd_X11_end
theorem mc_X11_wants : mDec mr_X11_wants := kd_X11_wants
theorem mc_X11_look : mDec mr_X11_look := kd_X11_look
theorem mc_X11_next : mDec mr_X11_next := kd_X11_next
theorem mc_X11_is : mDec mr_X11_is := kd_X11_is
theorem mc_X11_nameNow : mDec mr_X11_nameNow := kd_X11_nameNow
theorem mc_X11_readNumber : mDec mr_X11_readNumber := kd_X11_readNumber
theorem mc_X11_readName : mDec mr_X11_readName := kd_X11_readName
theorem mc_X11_readRent : mDec mr_X11_readRent := kd_X11_readRent
theorem mc_X11_least : mDec mr_X11_least := kd_X11_least
theorem mc_X11_most : mDec mr_X11_most := kd_X11_most
theorem mc_X11_readLine : mDec mr_X11_readLine := kd_X11_readLine
theorem mc_X11_rules : mDec mr_X11_rules := kd_X11_rules
theorem mc_X11_fault : mDec mr_X11_fault := kd_X11_fault
theorem mc_X11_rule : mDec mr_X11_rule := kd_X11_rule
theorem mc_X11_rent : mDec mr_X11_rent := kd_X11_rent
theorem mc_X11_demand : mDec mr_X11_demand := kd_X11_demand
theorem mc_X11_isDemand : mDec mr_X11_isDemand := kd_X11_isDemand
theorem mc_X11_much : mDec mr_X11_much := kd_X11_much
theorem mc_X11_roomsNow : mDec mr_X11_roomsNow := kd_X11_roomsNow
theorem mc_X11_other : mDec mr_X11_other := kd_X11_other
theorem mc_X11_findWay : mDec mr_X11_findWay := kd_X11_findWay
theorem mc_X11_leads : mDec mr_X11_leads := kd_X11_leads
theorem mc_X11_aheadOf : mDec mr_X11_aheadOf := kd_X11_aheadOf
theorem mc_X11_led : mDec mr_X11_led := kd_X11_led
theorem mc_X11_way : mDec mr_X11_way := kd_X11_way
theorem mc_X11_partsBy : mDec mr_X11_partsBy := kd_X11_partsBy
theorem mc_X11_parts : mDec mr_X11_parts := kd_X11_parts
theorem mc_X11_worst : mDec mr_X11_worst := kd_X11_worst
theorem mc_X11_swingsOnce : mDec mr_X11_swingsOnce := kd_X11_swingsOnce
theorem mc_X11_swing : mDec mr_X11_swing := kd_X11_swing
theorem mc_X11_areAlike : mDec mr_X11_areAlike := kd_X11_areAlike
theorem mc_X11_swings : mDec mr_X11_swings := kd_X11_swings
theorem mc_X11_isBreak : mDec mr_X11_isBreak := kd_X11_isBreak
theorem mc_X11_cut : mDec mr_X11_cut := kd_X11_cut
theorem mc_X11_echo : mDec mr_X11_echo := kd_X11_echo
theorem mc_X11_xAt : mDec mr_X11_xAt := kd_X11_xAt
theorem mc_X11_yAt : mDec mr_X11_yAt := kd_X11_yAt
theorem mc_X11_breakOf : mDec mr_X11_breakOf := kd_X11_breakOf
theorem mc_X11_quake : mDec mr_X11_quake := kd_X11_quake
theorem mc_X11_shared : mDec mr_X11_shared := kd_X11_shared
theorem mc_X11_ship : mDec mr_X11_ship := kd_X11_ship
theorem mc_X11_isShip : mDec mr_X11_isShip := kd_X11_isShip
theorem mc_X11_shipOf : mDec mr_X11_shipOf := kd_X11_shipOf
theorem mc_X11_takesReel : mDec mr_X11_takesReel := kd_X11_takesReel
theorem mc_X11_mayDo : mDec mr_X11_mayDo := kd_X11_mayDo
theorem mc_X11_hoursTo : mDec mr_X11_hoursTo := kd_X11_hoursTo
theorem mc_X11_startOf : mDec mr_X11_startOf := kd_X11_startOf
theorem mc_X11_send : mDec mr_X11_send := kd_X11_send
theorem mc_X11_findListed : mDec mr_X11_findListed := kd_X11_findListed
theorem mc_X11_weightOf : mDec mr_X11_weightOf := kd_X11_weightOf
theorem mc_X11_costBy : mDec mr_X11_costBy := kd_X11_costBy
theorem mc_X11_legOf : mDec mr_X11_legOf := kd_X11_legOf
theorem mc_X11_findOrder : mDec mr_X11_findOrder := kd_X11_findOrder
theorem mc_X11_order : mDec mr_X11_order := kd_X11_order
theorem mc_X11_plain : mDec mr_X11_plain := kd_X11_plain
theorem mc_X11_wasOpen : mDec mr_X11_wasOpen := kd_X11_wasOpen
theorem mc_X11_coins : mDec mr_X11_coins := kd_X11_coins
theorem mc_X11_owed : mDec mr_X11_owed := kd_X11_owed
theorem mc_X11_paid : mDec mr_X11_paid := kd_X11_paid
theorem mc_X11_plan : mDec mr_X11_plan := kd_X11_plan
theorem mc_X11_areJoined : mDec mr_X11_areJoined := kd_X11_areJoined
theorem mc_X11_isSafe : mDec mr_X11_isSafe := kd_X11_isSafe
theorem mc_X11_safe : mDec mr_X11_safe := kd_X11_safe
theorem mc_X11_isSheet : mDec mr_X11_isSheet := kd_X11_isSheet
theorem mc_X11_sheet : mDec mr_X11_sheet := kd_X11_sheet
theorem mc_X11_lay : mDec mr_X11_lay := kd_X11_lay
theorem mc_X11_read : mDec mr_X11_read := kd_X11_read
theorem mc_X11_count : mDec mr_X11_count := kd_X11_count
theorem mc_J0_length_8abf5 : mDec mr_J0_length_8abf5 := kd_J0_length_8abf5
theorem mc_J0_charAt_5068e : mDec mr_J0_charAt_5068e := kd_J0_charAt_5068e
theorem mc_J0_coder_7d493 : mDec mr_J0_coder_7d493 := kd_J0_coder_7d493
theorem mc_J0_isLatin1_aae02 : mDec mr_J0_isLatin1_aae02 := kd_J0_isLatin1_aae02
theorem mc_J0_checkIndex_df160 : mDec mr_J0_checkIndex_df160 := kd_J0_checkIndex_df160
theorem mc_J1_charAt_3b067 : mDec mr_J1_charAt_3b067 := kd_J1_charAt_3b067
theorem mc_J3_checkIndex_8e157 : mDec mr_J3_checkIndex_8e157 := kd_J3_checkIndex_8e157
theorem mc_J6_numberOfTrailingZeros_0f7a4 : mDec mr_J6_numberOfTrailingZeros_0f7a4 := kd_J6_numberOfTrailingZeros_0f7a4
theorem mc_J6_bitCount_0f7a4 : mDec mr_J6_bitCount_0f7a4 := kd_J6_bitCount_0f7a4
theorem mc_J7_fill_53178 : mDec mr_J7_fill_53178 := kd_J7_fill_53178
theorem mc_L_law : mDec mr_L_law := kd_L_law
theorem mI_dec (μ : Nat) : mDec (mI μ) := (cP (cP (cP (cP (cP (cP (cP (cP mc_X0_has mc_X0_add _) (cP mc_X0_narrow mc_X0_isInHands _) _) (cP (cP mc_X0_isOpen mc_X0_openOnes _) (cP mc_X0_isCut mc_X0_stateOf _) _) _) (cP (cP (cP mc_X0_litLines mc_X0_roomOf _) (cP mc_X0_farFrom mc_X0_farFromRow _) _) (cP (cP mc_X0_gap mc_X0_couldShare _) (cP mc_X0_downHours mc_X0_nextDown _) _) _) _) (cP (cP (cP (cP mc_X1_has mc_X1_add _) (cP mc_X1_hasLeave mc_X1_reelFor _) _) (cP (cP mc_X1_placeX mc_X1_placeY _) (cP mc_X1_hoursTo mc_X1_mayMend _) _) _) (cP (cP (cP mc_X1_beginsIn mc_X1_takeInHands _) (cP mc_X2_gather mc_X2_jobBits _) _) (cP (cP mc_X2_weigh mc_X2_measure _) (cP mc_X2_weightOf mc_X2_costFrom _) _) _) _) _) (cP (cP (cP (cP (cP mc_X2_costFor mc_X2_findBest _) (cP mc_X2_costOfParting mc_X2_nextParting _) _) (cP (cP mc_X2_bestShipOf mc_X2_goPlainly _) (cP mc_X2_firstFree mc_X2_soonestFor _) _) _) (cP (cP (cP mc_X2_doPlainly mc_X2_plainLeft _) (cP mc_X3_hasLand mc_X3_hasLine _) _) (cP (cP mc_X3_addLand mc_X3_addLine _) (cP mc_X3_lightIn mc_X3_isBright _) _) _) _) (cP (cP (cP (cP mc_X3_fullRoom mc_X3_otherEnd _) (cP mc_X3_stepsAlongX mc_X3_placeX _) _) (cP (cP mc_X3_placeY mc_X4_takeBytes _) (cP mc_X4_keepFirst mc_X4_tell _) _) _) (cP (cP (cP mc_X4_readLine mc_X4_readRent _) (cP mc_X4_readHouse mc_X4_readWord _) _) (cP (cP mc_X4_readStop mc_X4_readNumber _) mc_X4_fail _) _) _) _) _) (cP (cP (cP (cP (cP (cP mc_X4_nextToken mc_X4_nextNumber _) (cP mc_X4_isWord mc_X4_ruleNamed _) _) (cP (cP mc_X4_nameOf mc_X5_setAtFirst _) (cP mc_X5_copyFrom mc_X6_findBest _) _) _) (cP (cP (cP mc_X6_isBetter mc_X6_coinsOf _) (cP mc_X6_isSafe mc_X6_gatherTies _) _) (cP (cP mc_X6_addTie mc_X6_areJoinedWell _) (cP mc_X6_spread mc_X6_giveBack _) _) _) _) (cP (cP (cP (cP mc_X7_has mc_X7_isLane _) (cP mc_X7_isNothing mc_X7_hasCell _) _) (cP (cP mc_X7_begin mc_X7_put _) (cP mc_X8_has mc_X8_add _) _) _) (cP (cP (cP mc_X9_keepRooms mc_X9_goesBy _) (cP mc_X9_ahead mc_X9_lead _) _) (cP (cP mc_X9_leadOne mc_X9_stepOf _) mc_X9_measureTo _) _) _) _) (cP (cP (cP (cP (cP mc_X9_follow mc_X9_leastStep _) (cP mc_X9_heapsWithout mc_X9_joinHeaps _) _) (cP (cP mc_X9_swingUntilBack mc_X9_sameTurn _) (cP mc_X9_areLike mc_X9_chooseAll _) _) _) (cP (cP (cP mc_X9_chooseTo mc_X9_greatestLoad _) (cP mc_X9_overfull mc_X10_land _) _) (cP (cP mc_X10_line mc_X10_lineOf _) (cP mc_X10_light mc_X10_until _) _) _) _) (cP (cP (cP (cP mc_X10_change mc_X10_year _) (cP mc_X10_hour mc_X10_feed _) _) (cP (cP mc_X10_end mc_X10_rules _) (cP mc_X10_fault mc_X10_rule _) _) _) (cP (cP (cP mc_X10_rent mc_X10_demand _) (cP mc_X10_much mc_X10_led _) _) (cP (cP mc_X10_way mc_X10_parts _) mc_X10_worst _) _) _) _) _) _) (cP (cP (cP (cP (cP (cP (cP mc_X10_swing mc_X10_swings _) (cP mc_X10_cut mc_X10_echo _) _) (cP (cP mc_X10_breakOf mc_X10_quake _) (cP mc_X10_shared mc_X10_ship _) _) _) (cP (cP (cP mc_X10_shipOf mc_X10_send _) (cP mc_X10_order mc_X10_plain _) _) (cP (cP mc_X10_owed mc_X10_paid _) (cP mc_X10_plan mc_X10_safe _) _) _) _) (cP (cP (cP (cP mc_X10_sheet mc_X10_lay _) (cP mc_X10_read mc_X10_count _) _) (cP (cP mc_X10_isWithin mc_X10_areTwoLands _) (cP mc_X10_coinsOf mc_X11_in _) _) _) (cP (cP (cP mc_X11_bits mc_X11_plain1 _) (cP mc_X11_isLand mc_X11_isLine _) _) (cP (cP mc_X11_land mc_X11_line _) mc_X11_lengthOf _) _) _) _) (cP (cP (cP (cP (cP mc_X11_lightIn mc_X11_light _) (cP mc_X11_until mc_X11_isOpen _) _) (cP (cP mc_X11_isCut mc_X11_stateOf _) (cP mc_X11_roomOf mc_X11_lineOf _) _) _) (cP (cP (cP mc_X11_change mc_X11_year _) (cP mc_X11_hour mc_X11_firstRules _) _) (cP (cP mc_X11_feed mc_X11_end _) (cP mc_X11_wants mc_X11_look _) _) _) _) (cP (cP (cP (cP mc_X11_next mc_X11_is _) (cP mc_X11_nameNow mc_X11_readNumber _) _) (cP (cP mc_X11_readName mc_X11_readRent _) (cP mc_X11_least mc_X11_most _) _) _) (cP (cP (cP mc_X11_readLine mc_X11_rules _) (cP mc_X11_fault mc_X11_rule _) _) (cP (cP mc_X11_rent mc_X11_demand _) mc_X11_isDemand _) _) _) _) _) (cP (cP (cP (cP (cP (cP mc_X11_much mc_X11_roomsNow _) (cP mc_X11_other mc_X11_findWay _) _) (cP (cP mc_X11_leads mc_X11_aheadOf _) (cP mc_X11_led mc_X11_way _) _) _) (cP (cP (cP mc_X11_partsBy mc_X11_parts _) (cP mc_X11_worst mc_X11_swingsOnce _) _) (cP (cP mc_X11_swing mc_X11_areAlike _) (cP mc_X11_swings mc_X11_isBreak _) _) _) _) (cP (cP (cP (cP mc_X11_cut mc_X11_echo _) (cP mc_X11_xAt mc_X11_yAt _) _) (cP (cP mc_X11_breakOf mc_X11_quake _) (cP mc_X11_shared mc_X11_ship _) _) _) (cP (cP (cP mc_X11_isShip mc_X11_shipOf _) (cP mc_X11_takesReel mc_X11_mayDo _) _) (cP (cP mc_X11_hoursTo mc_X11_startOf _) mc_X11_send _) _) _) _) (cP (cP (cP (cP (cP mc_X11_findListed mc_X11_weightOf _) (cP mc_X11_costBy mc_X11_legOf _) _) (cP (cP mc_X11_findOrder mc_X11_order _) (cP mc_X11_plain mc_X11_wasOpen _) _) _) (cP (cP (cP mc_X11_coins mc_X11_owed _) (cP mc_X11_paid mc_X11_plan _) _) (cP (cP mc_X11_areJoined mc_X11_isSafe _) (cP mc_X11_safe mc_X11_isSheet _) _) _) _) (cP (cP (cP (cP mc_X11_sheet mc_X11_lay _) (cP mc_X11_read mc_X11_count _) _) (cP (cP mc_J0_length_8abf5 mc_J0_charAt_5068e _) (cP mc_J0_coder_7d493 mc_J0_isLatin1_aae02 _) _) _) (cP (cP (cP mc_J0_checkIndex_df160 mc_J1_charAt_3b067 _) (cP mc_J3_checkIndex_8e157 mc_J6_numberOfTrailingZeros_0f7a4 _) _) (cP (cP mc_J6_bitCount_0f7a4 mc_J7_fill_53178 _) mc_L_law _) _) _) _) _) _) _)
set_option maxRecDepth 20000 in
theorem fo_X0 : ∀ q ∈ fl_X0, flOK 0 q := memc (wt1 189 rfl rfl) (memc (wt1 193 rfl rfl) (memc (wt1 195 rfl rfl) (memc (wt1 197 rfl rfl) (memc (wt1 200 rfl rfl) (memc (wt1 203 rfl rfl) (memc (wt1 206 rfl rfl) (memc (wt1 181 rfl rfl) (memc (wt1 186 rfl rfl) (memc (wt1 182 rfl rfl) (memc (wt1 146 rfl rfl) (memc (wt1 126 rfl rfl) (memn))))))))))))
set_option maxRecDepth 20000 in
theorem mlo_X0 : ∀ q ∈ ml_X0, mlOK 0 q := memc (⟨mo_X0_isOpen, Or.inl (wt3 92 rfl rfl)⟩) (memc (⟨mo_X0_isCut, Or.inl (wt3 88 rfl rfl)⟩) (memc (⟨mo_X3_isBright, Or.inl (wt3 96 rfl rfl)⟩) (memc (⟨mo_X0_stateOf, Or.inl (wt6 33 rfl rfl)⟩) (memc (⟨mo_X3_fullRoom, Or.inl (wt3 109 rfl rfl)⟩) (memc (⟨mo_X3_stepsAlongX, Or.inl (wt4 226 rfl rfl)⟩) (memc (⟨mo_X0_farFromRow, Or.inl (wt4 227 rfl rfl)⟩) (memc (⟨mo_X3_placeX, Or.inl (wt4 231 rfl rfl)⟩) (memc (⟨mo_X0_gap, Or.inl (wt4 232 rfl rfl)⟩) (memc (⟨mo_X3_placeY, Or.inl (wt4 235 rfl rfl)⟩) (memc (⟨mo_X0_farFrom, Or.inl (wt5 5 rfl rfl)⟩) (memc (⟨mo_X0_nextDown, Or.inl (wt5 167 rfl rfl)⟩) (memn))))))))))))
set_option maxRecDepth 20000 in
theorem io_X0 : ∀ q ∈ il_X0, ilOK 0 q := memc (wt4 179 rfl rfl) (memn)
set_option maxRecDepth 20000 in
theorem jo_X0 : ∀ q ∈ jl_X0, jlOK 0 q := memn
set_option maxRecDepth 20000 in
theorem mmo_X0 : ∀ q ∈ mm_X0, mmOK 0 q := memc (wt4 196 rfl rfl) (memc (wt4 197 rfl rfl) (memc (wt5 4 rfl rfl) (memn)))
set_option maxRecDepth 20000 in
theorem ao_X0 : ∀ q ∈ ac_X0, acOK 0 q := memn
set_option maxRecDepth 20000 in
theorem fo_X1 : ∀ q ∈ fl_X1, flOK 1 q := memc (wt2 91 rfl rfl) (memc (wt2 94 rfl rfl) (memc (wt2 97 rfl rfl) (memc (wt2 100 rfl rfl) (memc (wt2 102 rfl rfl) (memc (wt2 85 rfl rfl) (memc (wt2 86 rfl rfl) (memc (wt2 87 rfl rfl) (memc (wt2 88 rfl rfl) (memc (wt1 120 rfl rfl) (memc (wt1 122 rfl rfl) (memc (wt1 138 rfl rfl) (memc (wt1 190 rfl rfl) (memc (wt1 201 rfl rfl) (memc (wt1 198 rfl rfl) (memc (wt1 50 rfl rfl) (memc (wt1 185 rfl rfl) (memc (wt1 204 rfl rfl) (memc (wt1 207 rfl rfl) (memn)))))))))))))))))))
set_option maxRecDepth 20000 in
theorem mlo_X1 : ∀ q ∈ ml_X1, mlOK 1 q := memc (⟨mo_X3_placeX, Or.inl (wt5 55 rfl rfl)⟩) (memc (⟨mo_X3_placeY, Or.inl (wt5 61 rfl rfl)⟩) (memc (⟨mo_X1_placeX, Or.inl (wt5 51 rfl rfl)⟩) (memc (⟨mo_X1_placeY, Or.inl (wt5 57 rfl rfl)⟩) (memc (⟨mo_X1_hasLeave, Or.inl (wt5 30 rfl rfl)⟩) (memc (⟨mo_X1_reelFor, Or.inl (wt5 34 rfl rfl)⟩) (memc (⟨mo_X1_beginsIn, Or.inl (wt5 42 rfl rfl)⟩) (memc (⟨mo_X1_hoursTo, Or.inl (wt5 47 rfl rfl)⟩) (memn))))))))
set_option maxRecDepth 20000 in
theorem io_X1 : ∀ q ∈ il_X1, ilOK 1 q := memn
set_option maxRecDepth 20000 in
theorem jo_X1 : ∀ q ∈ jl_X1, jlOK 1 q := memn
set_option maxRecDepth 20000 in
theorem mmo_X1 : ∀ q ∈ mm_X1, mmOK 1 q := memc (wt5 56 rfl rfl) (memc (wt5 46 rfl rfl) (memn))
set_option maxRecDepth 20000 in
theorem ao_X1 : ∀ q ∈ ac_X1, acOK 1 q := memn
set_option maxRecDepth 20000 in
theorem fo_X2 : ∀ q ∈ fl_X2, flOK 2 q := memc (wt2 134 rfl rfl) (memc (wt2 135 rfl rfl) (memc (wt2 136 rfl rfl) (memc (wt2 137 rfl rfl) (memc (wt2 138 rfl rfl) (memc (wt2 139 rfl rfl) (memc (wt2 140 rfl rfl) (memc (wt2 141 rfl rfl) (memc (wt2 142 rfl rfl) (memc (wt2 145 rfl rfl) (memc (wt2 146 rfl rfl) (memc (wt2 147 rfl rfl) (memc (wt2 148 rfl rfl) (memc (wt2 130 rfl rfl) (memc (wt2 131 rfl rfl) (memc (wt2 132 rfl rfl) (memc (wt2 133 rfl rfl) (memc (wt1 187 rfl rfl) (memc (wt1 191 rfl rfl) (memc (wt2 89 rfl rfl) (memc (wt1 183 rfl rfl) (memc (wt2 98 rfl rfl) (memc (wt2 92 rfl rfl) (memc (wt2 95 rfl rfl) (memc (wt2 143 rfl rfl) (memc (wt2 150 rfl rfl) (memc (wt2 149 rfl rfl) (memn)))))))))))))))))))))))))))
set_option maxRecDepth 20000 in
theorem mlo_X2 : ∀ q ∈ ml_X2, mlOK 2 q := memc (⟨mo_X0_isOpen, Or.inl (wt5 70 rfl rfl)⟩) (memc (⟨mo_X0_isInHands, Or.inl (wt5 71 rfl rfl)⟩) (memc (⟨mo_X9_keepRooms, Or.inl (wt5 80 rfl rfl)⟩) (memc (⟨mo_X9_lead, Or.inl (wt5 81 rfl rfl)⟩) (memc (⟨mo_X1_placeX, Or.inl (wt5 86 rfl rfl)⟩) (memc (⟨mo_X1_placeY, Or.inl (wt5 87 rfl rfl)⟩) (memc (⟨mo_X1_hoursTo, Or.inl (wt5 88 rfl rfl)⟩) (memc (⟨mo_X2_weightOf, Or.inl (wt5 89 rfl rfl)⟩) (memc (⟨mo_X2_costFrom, Or.inl (wt5 93 rfl rfl)⟩) (memc (⟨mo_X2_costFor, Or.inl (wt5 99 rfl rfl)⟩) (memc (⟨mo_X1_beginsIn, Or.inl (wt5 103 rfl rfl)⟩) (memc (⟨mo_X1_reelFor, Or.inl (wt5 104 rfl rfl)⟩) (memc (⟨mo_X1_hasLeave, Or.inl (wt5 105 rfl rfl)⟩) (memc (⟨mo_J7_fill_53178, Or.inl (wt5 110 rfl rfl)⟩) (memc (⟨mo_X2_costOfParting, Or.inl (wt5 111 rfl rfl)⟩) (memc (⟨mo_X2_nextParting, Or.inl (wt5 116 rfl rfl)⟩) (memc (⟨mo_X2_firstFree, Or.inl (wt5 132 rfl rfl)⟩) (memc (⟨mo_X2_soonestFor, Or.inl (wt5 136 rfl rfl)⟩) (memc (⟨mo_X2_doPlainly, Or.inl (wt5 140 rfl rfl)⟩) (memc (⟨mo_J6_bitCount_0f7a4, Or.inl (wt5 148 rfl rfl)⟩) (memn))))))))))))))))))))
set_option maxRecDepth 20000 in
theorem io_X2 : ∀ q ∈ il_X2, ilOK 2 q := memc (wt5 97 rfl rfl) (memn)
set_option maxRecDepth 20000 in
theorem jo_X2 : ∀ q ∈ jl_X2, jlOK 2 q := memn
set_option maxRecDepth 20000 in
theorem mmo_X2 : ∀ q ∈ mm_X2, mmOK 2 q := memc (wt5 98 rfl rfl) (memn)
set_option maxRecDepth 20000 in
theorem ao_X2 : ∀ q ∈ ac_X2, acOK 2 q := memc (wt5 115 rfl rfl) (memn)
set_option maxRecDepth 20000 in
theorem fo_X3 : ∀ q ∈ fl_X3, flOK 3 q := memc (wt1 119 rfl rfl) (memc (wt1 121 rfl rfl) (memc (wt1 128 rfl rfl) (memc (wt1 132 rfl rfl) (memc (wt1 136 rfl rfl) (memc (wt1 139 rfl rfl) (memc (wt1 141 rfl rfl) (memc (wt1 143 rfl rfl) (memc (wt1 145 rfl rfl) (memc (wt1 112 rfl rfl) (memc (wt1 115 rfl rfl) (memc (wt1 124 rfl rfl) (memc (wt1 48 rfl rfl) (memc (wt1 114 rfl rfl) (memn))))))))))))))
set_option maxRecDepth 20000 in
theorem mlo_X3 : ∀ q ∈ ml_X3, mlOK 3 q := memc (⟨mo_X3_lightIn, Or.inl (wt3 100 rfl rfl)⟩) (memc (⟨mo_X3_stepsAlongX, Or.inl (wt4 209 rfl rfl)⟩) (memn))
set_option maxRecDepth 20000 in
theorem io_X3 : ∀ q ∈ il_X3, ilOK 3 q := memn
set_option maxRecDepth 20000 in
theorem jo_X3 : ∀ q ∈ jl_X3, jlOK 3 q := memn
set_option maxRecDepth 20000 in
theorem mmo_X3 : ∀ q ∈ mm_X3, mmOK 3 q := memc (wt3 73 rfl rfl) (memc (wt3 104 rfl rfl) (memc (wt4 213 rfl rfl) (memn)))
set_option maxRecDepth 20000 in
theorem ao_X3 : ∀ q ∈ ac_X3, acOK 3 q := memn
set_option maxRecDepth 20000 in
theorem fo_X4 : ∀ q ∈ fl_X4, flOK 4 q := memc (wt1 73 rfl rfl) (memc (wt1 74 rfl rfl) (memc (wt1 75 rfl rfl) (memc (wt1 84 rfl rfl) (memc (wt1 80 rfl rfl) (memc (wt1 77 rfl rfl) (memc (wt1 81 rfl rfl) (memc (wt1 79 rfl rfl) (memc (wt1 47 rfl rfl) (memc (wt1 55 rfl rfl) (memc (wt1 52 rfl rfl) (memc (wt1 82 rfl rfl) (memc (wt1 83 rfl rfl) (memn)))))))))))))
set_option maxRecDepth 20000 in
theorem mlo_X4 : ∀ q ∈ ml_X4, mlOK 4 q := memc (⟨mo_X5_setAtFirst, Or.inl (wt3 198 rfl rfl)⟩) (memc (⟨mo_X4_nextToken, Or.inl (wt3 199 rfl rfl)⟩) (memc (⟨mo_X4_readLine, Or.inl (wt3 211 rfl rfl)⟩) (memc (⟨mo_X5_copyFrom, Or.inl (wt4 70 rfl rfl)⟩) (memc (⟨mo_X4_isWord, Or.inl (wt3 216 rfl rfl)⟩) (memc (⟨mo_X4_readRent, Or.inl (wt4 28 rfl rfl)⟩) (memc (⟨mo_X4_ruleNamed, Or.inl (wt4 51 rfl rfl)⟩) (memc (⟨mo_X4_fail, Or.inl (wt3 207 rfl rfl)⟩) (memc (⟨mo_X4_readNumber, Or.inl (wt4 36 rfl rfl)⟩) (memc (⟨mo_X4_readStop, Or.inl (wt4 47 rfl rfl)⟩) (memc (⟨mo_X4_readHouse, Or.inl (wt4 32 rfl rfl)⟩) (memc (⟨mo_X4_readWord, Or.inl (wt4 41 rfl rfl)⟩) (memc (⟨mo_X4_nextNumber, Or.inl (wt3 203 rfl rfl)⟩) (memc (⟨mo_J0_length_8abf5, Or.inl (wt3 220 rfl rfl)⟩) (memc (⟨mo_J0_charAt_5068e, Or.inl (wt3 230 rfl rfl)⟩) (memc (⟨mo_X4_nameOf, Or.inl (wt4 55 rfl rfl)⟩) (memc (⟨mo_X10_isWithin, Or.inr ⟨rfl, rfl, rfl⟩⟩) (memn)))))))))))))))))
set_option maxRecDepth 20000 in
theorem io_X4 : ∀ q ∈ il_X4, ilOK 4 q := memn
set_option maxRecDepth 20000 in
theorem jo_X4 : ∀ q ∈ jl_X4, jlOK 4 q := memn
set_option maxRecDepth 20000 in
theorem mmo_X4 : ∀ q ∈ mm_X4, mmOK 4 q := memn
set_option maxRecDepth 20000 in
theorem ao_X4 : ∀ q ∈ ac_X4, acOK 4 q := memn
set_option maxRecDepth 20000 in
theorem fo_X5 : ∀ q ∈ fl_X5, flOK 5 q := memc (wt1 46 rfl rfl) (memc (wt1 51 rfl rfl) (memc (wt1 54 rfl rfl) (memn)))
set_option maxRecDepth 20000 in
theorem mlo_X5 : ∀ q ∈ ml_X5, mlOK 5 q := memc (⟨mo_X5_setAtFirst, Or.inl (wt1 37 rfl rfl)⟩) (memn)
set_option maxRecDepth 20000 in
theorem io_X5 : ∀ q ∈ il_X5, ilOK 5 q := memn
set_option maxRecDepth 20000 in
theorem jo_X5 : ∀ q ∈ jl_X5, jlOK 5 q := memn
set_option maxRecDepth 20000 in
theorem mmo_X5 : ∀ q ∈ mm_X5, mmOK 5 q := memn
set_option maxRecDepth 20000 in
theorem ao_X5 : ∀ q ∈ ac_X5, acOK 5 q := memc (wt1 43 rfl rfl) (memn)
set_option maxRecDepth 20000 in
theorem fo_X6 : ∀ q ∈ fl_X6, flOK 6 q := memc (wt2 202 rfl rfl) (memc (wt2 203 rfl rfl) (memc (wt2 204 rfl rfl) (memc (wt2 205 rfl rfl) (memc (wt2 199 rfl rfl) (memc (wt2 200 rfl rfl) (memc (wt2 9 rfl rfl) (memc (wt2 208 rfl rfl) (memc (wt2 206 rfl rfl) (memc (wt2 6 rfl rfl) (memc (wt1 116 rfl rfl) (memc (wt2 201 rfl rfl) (memc (wt1 125 rfl rfl) (memc (wt1 130 rfl rfl) (memc (wt1 134 rfl rfl) (memc (wt2 0 rfl rfl) (memc (wt2 4 rfl rfl) (memn)))))))))))))))))
set_option maxRecDepth 20000 in
theorem mlo_X6 : ∀ q ∈ ml_X6, mlOK 6 q := memc (⟨mo_X6_isSafe, Or.inl (wt5 187 rfl rfl)⟩) (memc (⟨mo_X6_coinsOf, Or.inl (wt5 216 rfl rfl)⟩) (memc (⟨mo_X6_isBetter, Or.inl (wt5 220 rfl rfl)⟩) (memc (⟨mo_J6_bitCount_0f7a4, Or.inl (wt5 224 rfl rfl)⟩) (memc (⟨mo_X6_gatherTies, Or.inl (wt5 191 rfl rfl)⟩) (memc (⟨mo_J6_numberOfTrailingZeros_0f7a4, Or.inl (wt5 199 rfl rfl)⟩) (memc (⟨mo_X6_areJoinedWell, Or.inl (wt5 203 rfl rfl)⟩) (memc (⟨mo_X6_addTie, Or.inl (wt5 195 rfl rfl)⟩) (memc (⟨mo_J7_fill_53178, Or.inl (wt5 207 rfl rfl)⟩) (memc (⟨mo_X6_spread, Or.inl (wt5 208 rfl rfl)⟩) (memc (⟨mo_X6_giveBack, Or.inl (wt5 212 rfl rfl)⟩) (memn)))))))))))
set_option maxRecDepth 20000 in
theorem io_X6 : ∀ q ∈ il_X6, ilOK 6 q := memn
set_option maxRecDepth 20000 in
theorem jo_X6 : ∀ q ∈ jl_X6, jlOK 6 q := memn
set_option maxRecDepth 20000 in
theorem mmo_X6 : ∀ q ∈ mm_X6, mmOK 6 q := memn
set_option maxRecDepth 20000 in
theorem ao_X6 : ∀ q ∈ ac_X6, acOK 6 q := memn
set_option maxRecDepth 20000 in
theorem fo_X7 : ∀ q ∈ fl_X7, flOK 7 q := memc (wt2 239 rfl rfl) (memc (wt3 1 rfl rfl) (memc (wt3 3 rfl rfl) (memn)))
set_option maxRecDepth 20000 in
theorem mlo_X7 : ∀ q ∈ ml_X7, mlOK 7 q := memc (⟨mo_J7_fill_53178, Or.inl (wt2 236 rfl rfl)⟩) (memn)
set_option maxRecDepth 20000 in
theorem io_X7 : ∀ q ∈ il_X7, ilOK 7 q := memn
set_option maxRecDepth 20000 in
theorem jo_X7 : ∀ q ∈ jl_X7, jlOK 7 q := memn
set_option maxRecDepth 20000 in
theorem mmo_X7 : ∀ q ∈ mm_X7, mmOK 7 q := memn
set_option maxRecDepth 20000 in
theorem ao_X7 : ∀ q ∈ ac_X7, acOK 7 q := memn
set_option maxRecDepth 20000 in
theorem fo_X8 : ∀ q ∈ fl_X8, flOK 8 q := memc (wt1 239 rfl rfl) (memc (wt2 2 rfl rfl) (memc (wt2 5 rfl rfl) (memc (wt2 10 rfl rfl) (memn))))
set_option maxRecDepth 20000 in
theorem mlo_X8 : ∀ q ∈ ml_X8, mlOK 8 q := memn
set_option maxRecDepth 20000 in
theorem io_X8 : ∀ q ∈ il_X8, ilOK 8 q := memn
set_option maxRecDepth 20000 in
theorem jo_X8 : ∀ q ∈ jl_X8, jlOK 8 q := memn
set_option maxRecDepth 20000 in
theorem mmo_X8 : ∀ q ∈ mm_X8, mmOK 8 q := memc (wt1 236 rfl rfl) (memn)
set_option maxRecDepth 20000 in
theorem ao_X8 : ∀ q ∈ ac_X8, acOK 8 q := memn
set_option maxRecDepth 20000 in
theorem fo_X9 : ∀ q ∈ fl_X9, flOK 9 q := memc (wt2 32 rfl rfl) (memc (wt2 33 rfl rfl) (memc (wt2 34 rfl rfl) (memc (wt2 35 rfl rfl) (memc (wt2 36 rfl rfl) (memc (wt2 37 rfl rfl) (memc (wt2 38 rfl rfl) (memc (wt2 39 rfl rfl) (memc (wt2 29 rfl rfl) (memc (wt2 30 rfl rfl) (memc (wt2 31 rfl rfl) (memc (wt1 123 rfl rfl) (memc (wt2 40 rfl rfl) (memc (wt2 42 rfl rfl) (memc (wt2 11 rfl rfl) (memc (wt2 7 rfl rfl) (memc (wt2 3 rfl rfl) (memc (wt1 131 rfl rfl) (memc (wt1 135 rfl rfl) (memc (wt2 1 rfl rfl) (memc (wt1 117 rfl rfl) (memc (wt2 44 rfl rfl) (memc (wt2 46 rfl rfl) (memn)))))))))))))))))))))))
set_option maxRecDepth 20000 in
theorem mlo_X9 : ∀ q ∈ ml_X9, mlOK 9 q := memc (⟨mo_X0_roomOf, Or.inl (wt3 121 rfl rfl)⟩) (memc (⟨mo_X9_keepRooms, Or.inl (wt3 117 rfl rfl)⟩) (memc (⟨mo_X9_lead, Or.inl (wt3 122 rfl rfl)⟩) (memc (⟨mo_X9_leadOne, Or.inl (wt3 126 rfl rfl)⟩) (memc (⟨mo_X9_measureTo, Or.inl (wt3 130 rfl rfl)⟩) (memc (⟨mo_X9_follow, Or.inl (wt3 136 rfl rfl)⟩) (memc (⟨mo_J7_fill_53178, Or.inl (wt3 135 rfl rfl)⟩) (memc (⟨mo_X9_leastStep, Or.inl (wt3 140 rfl rfl)⟩) (memc (⟨mo_X3_otherEnd, Or.inl (wt3 144 rfl rfl)⟩) (memc (⟨mo_X9_joinHeaps, Or.inl (wt4 125 rfl rfl)⟩) (memc (⟨mo_X9_chooseAll, Or.inl (wt4 141 rfl rfl)⟩) (memc (⟨mo_X9_areLike, Or.inl (wt4 149 rfl rfl)⟩) (memc (⟨mo_X9_chooseTo, Or.inl (wt4 145 rfl rfl)⟩) (memn)))))))))))))
set_option maxRecDepth 20000 in
theorem io_X9 : ∀ q ∈ il_X9, ilOK 9 q := memc (wt3 134 rfl rfl) (memn)
set_option maxRecDepth 20000 in
theorem jo_X9 : ∀ q ∈ jl_X9, jlOK 9 q := memn
set_option maxRecDepth 20000 in
theorem mmo_X9 : ∀ q ∈ mm_X9, mmOK 9 q := memc (wt4 166 rfl rfl) (memn)
set_option maxRecDepth 20000 in
theorem ao_X9 : ∀ q ∈ ac_X9, acOK 9 q := memn
set_option maxRecDepth 20000 in
theorem fo_X10 : ∀ q ∈ fl_X10, flOK 10 q := memc (wt3 12 rfl rfl) (memc (wt3 13 rfl rfl) (memc (wt3 14 rfl rfl) (memc (wt3 15 rfl rfl) (memc (wt3 16 rfl rfl) (memc (wt3 17 rfl rfl) (memc (wt3 18 rfl rfl) (memc (wt3 19 rfl rfl) (memc (wt3 20 rfl rfl) (memc (wt3 21 rfl rfl) (memc (wt3 22 rfl rfl) (memc (wt1 137 rfl rfl) (memc (wt1 140 rfl rfl) (memc (wt1 142 rfl rfl) (memc (wt1 144 rfl rfl) (memc (wt1 129 rfl rfl) (memc (wt1 133 rfl rfl) (memc (wt1 147 rfl rfl) (memc (wt1 113 rfl rfl) (memc (wt1 49 rfl rfl) (memc (wt1 184 rfl rfl) (memc (wt1 78 rfl rfl) (memc (wt1 56 rfl rfl) (memc (wt1 53 rfl rfl) (memc (wt2 8 rfl rfl) (memc (wt2 41 rfl rfl) (memc (wt2 43 rfl rfl) (memc (wt1 127 rfl rfl) (memc (wt2 45 rfl rfl) (memc (wt2 47 rfl rfl) (memc (wt1 192 rfl rfl) (memc (wt1 194 rfl rfl) (memc (wt1 196 rfl rfl) (memc (wt1 202 rfl rfl) (memc (wt1 199 rfl rfl) (memc (wt1 205 rfl rfl) (memc (wt1 208 rfl rfl) (memc (wt1 188 rfl rfl) (memc (wt2 93 rfl rfl) (memc (wt2 96 rfl rfl) (memc (wt2 99 rfl rfl) (memc (wt2 101 rfl rfl) (memc (wt2 103 rfl rfl) (memc (wt2 144 rfl rfl) (memc (wt2 151 rfl rfl) (memc (wt1 118 rfl rfl) (memc (wt2 207 rfl rfl) (memc (wt2 209 rfl rfl) (memc (wt3 0 rfl rfl) (memc (wt2 12 rfl rfl) (memc (wt3 4 rfl rfl) (memc (wt2 90 rfl rfl) (memc (wt1 76 rfl rfl) (memc (wt3 2 rfl rfl) (memn))))))))))))))))))))))))))))))))))))))))))))))))))))))
set_option maxRecDepth 20000 in
theorem mlo_X10 : ∀ q ∈ ml_X10, mlOK 10 q := memc (⟨mo_X10_isWithin, Or.inl (wt3 50 rfl rfl)⟩) (memc (⟨mo_X3_addLand, Or.inl (wt3 53 rfl rfl)⟩) (memc (⟨mo_X10_areTwoLands, Or.inl (wt3 61 rfl rfl)⟩) (memc (⟨mo_X3_addLine, Or.inl (wt3 69 rfl rfl)⟩) (memc (⟨mo_X3_hasLine, Or.inl (wt3 80 rfl rfl)⟩) (memc (⟨mo_X0_stateOf, Or.inl (wt3 84 rfl rfl)⟩) (memc (⟨mo_X0_roomOf, Or.inl (wt3 105 rfl rfl)⟩) (memc (⟨mo_X9_goesBy, Or.inl (wt3 113 rfl rfl)⟩) (memc (⟨mo_X9_ahead, Or.inl (wt3 148 rfl rfl)⟩) (memc (⟨mo_X3_lightIn, Or.inl (wt3 156 rfl rfl)⟩) (memc (⟨mo_X4_takeBytes, Or.inl (wt3 177 rfl rfl)⟩) (memc (⟨mo_X4_keepFirst, Or.inl (wt3 185 rfl rfl)⟩) (memc (⟨mo_X4_tell, Or.inl (wt3 194 rfl rfl)⟩) (memc (⟨mo_X8_add, Or.inl (wt4 91 rfl rfl)⟩) (memc (⟨mo_X8_has, Or.inl (wt4 99 rfl rfl)⟩) (memc (⟨mo_X9_keepRooms, Or.inl (wt4 107 rfl rfl)⟩) (memc (⟨mo_X9_lead, Or.inl (wt4 108 rfl rfl)⟩) (memc (⟨mo_X9_stepOf, Or.inl (wt4 113 rfl rfl)⟩) (memc (⟨mo_X9_heapsWithout, Or.inl (wt4 121 rfl rfl)⟩) (memc (⟨mo_X9_swingUntilBack, Or.inl (wt4 137 rfl rfl)⟩) (memc (⟨mo_X9_sameTurn, Or.inl (wt4 153 rfl rfl)⟩) (memc (⟨mo_X9_chooseAll, Or.inl (wt4 157 rfl rfl)⟩) (memc (⟨mo_X9_greatestLoad, Or.inl (wt4 162 rfl rfl)⟩) (memc (⟨mo_X9_overfull, Or.inl (wt4 167 rfl rfl)⟩) (memc (⟨mo_X0_add, Or.inl (wt4 175 rfl rfl)⟩) (memc (⟨mo_X0_has, Or.inl (wt4 184 rfl rfl)⟩) (memc (⟨mo_X0_isInHands, Or.inl (wt4 188 rfl rfl)⟩) (memc (⟨mo_X0_narrow, Or.inl (wt4 192 rfl rfl)⟩) (memc (⟨mo_X0_isOpen, Or.inl (wt4 204 rfl rfl)⟩) (memc (⟨mo_X3_placeX, Or.inl (wt4 205 rfl rfl)⟩) (memc (⟨mo_X3_placeY, Or.inl (wt4 214 rfl rfl)⟩) (memc (⟨mo_X0_farFrom, Or.inl (wt4 222 rfl rfl)⟩) (memc (⟨mo_X0_couldShare, Or.inl (wt5 0 rfl rfl)⟩) (memc (⟨mo_X3_hasLand, Or.inl (wt3 65 rfl rfl)⟩) (memc (⟨mo_X1_add, Or.inl (wt5 10 rfl rfl)⟩) (memc (⟨mo_X1_has, Or.inl (wt5 18 rfl rfl)⟩) (memc (⟨mo_X1_mayMend, Or.inl (wt5 26 rfl rfl)⟩) (memc (⟨mo_X1_takeInHands, Or.inl (wt5 38 rfl rfl)⟩) (memc (⟨mo_X2_gather, Or.inl (wt5 66 rfl rfl)⟩) (memc (⟨mo_X2_jobBits, Or.inl (wt5 72 rfl rfl)⟩) (memc (⟨mo_X2_weigh, Or.inl (wt5 76 rfl rfl)⟩) (memc (⟨mo_X2_measure, Or.inl (wt5 82 rfl rfl)⟩) (memc (⟨mo_X2_findBest, Or.inl (wt5 106 rfl rfl)⟩) (memc (⟨mo_X2_bestShipOf, Or.inl (wt5 120 rfl rfl)⟩) (memc (⟨mo_X2_goPlainly, Or.inl (wt5 128 rfl rfl)⟩) (memc (⟨mo_X2_plainLeft, Or.inl (wt5 144 rfl rfl)⟩) (memc (⟨mo_X10_coinsOf, Or.inl (wt5 158 rfl rfl)⟩) (memc (⟨mo_X6_findBest, Or.inl (wt5 183 rfl rfl)⟩) (memc (⟨mo_X7_has, Or.inl (wt5 229 rfl rfl)⟩) (memc (⟨mo_X7_isLane, Or.inl (wt5 233 rfl rfl)⟩) (memc (⟨mo_X7_begin, Or.inl (wt5 237 rfl rfl)⟩) (memc (⟨mo_X7_isNothing, Or.inl (wt6 5 rfl rfl)⟩) (memc (⟨mo_X7_hasCell, Or.inl (wt6 9 rfl rfl)⟩) (memc (⟨mo_X7_put, Or.inl (wt6 13 rfl rfl)⟩) (memc (⟨mo_X0_openOnes, Or.inl (wt6 25 rfl rfl)⟩) (memc (⟨mo_X0_litLines, Or.inl (wt6 29 rfl rfl)⟩) (memc (⟨mo_X0_downHours, Or.inl (wt5 163 rfl rfl)⟩) (memn)))))))))))))))))))))))))))))))))))))))))))))))))))))))))
set_option maxRecDepth 20000 in
theorem io_X10 : ∀ q ∈ il_X10, ilOK 10 q := memn
set_option maxRecDepth 20000 in
theorem jo_X10 : ∀ q ∈ jl_X10, jlOK 10 q := memn
set_option maxRecDepth 20000 in
theorem mmo_X10 : ∀ q ∈ mm_X10, mmOK 10 q := memc (wt5 162 rfl rfl) (memn)
set_option maxRecDepth 20000 in
theorem ao_X10 : ∀ q ∈ ac_X10, acOK 10 q := memn
set_option maxRecDepth 20000 in
theorem fo_X11 : ∀ q ∈ fl_X11, flOK 11 q := memc (wt6 45 rfl rfl) (memc (wt6 46 rfl rfl) (memc (wt6 48 rfl rfl) (memc (wt6 49 rfl rfl) (memc (wt6 50 rfl rfl) (memc (wt6 51 rfl rfl) (memc (wt6 52 rfl rfl) (memc (wt6 53 rfl rfl) (memc (wt6 56 rfl rfl) (memc (wt6 57 rfl rfl) (memc (wt6 58 rfl rfl) (memc (wt6 60 rfl rfl) (memc (wt6 62 rfl rfl) (memc (wt6 63 rfl rfl) (memc (wt6 72 rfl rfl) (memc (wt6 73 rfl rfl) (memc (wt6 74 rfl rfl) (memc (wt6 75 rfl rfl) (memc (wt6 76 rfl rfl) (memc (wt6 77 rfl rfl) (memc (wt6 78 rfl rfl) (memc (wt6 81 rfl rfl) (memc (wt6 82 rfl rfl) (memc (wt6 83 rfl rfl) (memc (wt6 84 rfl rfl) (memc (wt6 86 rfl rfl) (memc (wt6 87 rfl rfl) (memc (wt6 88 rfl rfl) (memc (wt6 89 rfl rfl) (memc (wt6 90 rfl rfl) (memc (wt6 91 rfl rfl) (memc (wt6 92 rfl rfl) (memc (wt6 94 rfl rfl) (memc (wt6 95 rfl rfl) (memc (wt6 96 rfl rfl) (memc (wt6 97 rfl rfl) (memc (wt6 98 rfl rfl) (memc (wt6 99 rfl rfl) (memc (wt6 101 rfl rfl) (memc (wt6 102 rfl rfl) (memc (wt6 103 rfl rfl) (memc (wt6 105 rfl rfl) (memc (wt6 106 rfl rfl) (memc (wt6 107 rfl rfl) (memc (wt6 108 rfl rfl) (memc (wt6 109 rfl rfl) (memc (wt6 110 rfl rfl) (memc (wt6 112 rfl rfl) (memc (wt6 113 rfl rfl) (memc (wt6 114 rfl rfl) (memc (wt6 115 rfl rfl) (memc (wt6 116 rfl rfl) (memc (wt6 117 rfl rfl) (memc (wt6 44 rfl rfl) (memc (wt6 47 rfl rfl) (memc (wt6 54 rfl rfl) (memc (wt6 55 rfl rfl) (memc (wt6 85 rfl rfl) (memc (wt6 61 rfl rfl) (memc (wt6 64 rfl rfl) (memc (wt6 69 rfl rfl) (memc (wt6 66 rfl rfl) (memc (wt6 70 rfl rfl) (memc (wt6 65 rfl rfl) (memc (wt6 67 rfl rfl) (memc (wt6 68 rfl rfl) (memc (wt6 59 rfl rfl) (memc (wt6 71 rfl rfl) (memc (wt6 80 rfl rfl) (memc (wt6 79 rfl rfl) (memc (wt6 93 rfl rfl) (memc (wt6 100 rfl rfl) (memc (wt6 104 rfl rfl) (memc (wt6 111 rfl rfl) (memn))))))))))))))))))))))))))))))))))))))))))))))))))))))))))))))))))))))))))
set_option maxRecDepth 20000 in
theorem mlo_X11 : ∀ q ∈ ml_X11, mlOK 11 q := memc (⟨mo_X11_firstRules, Or.inl (wt6 40 rfl rfl)⟩) (memc (⟨mo_X11_in, Or.inl (wt7 33 rfl rfl)⟩) (memc (⟨mo_X11_isLand, Or.inl (wt7 40 rfl rfl)⟩) (memc (⟨mo_X11_plain1, Or.inl (wt7 62 rfl rfl)⟩) (memc (⟨mo_X11_lengthOf, Or.inl (wt7 58 rfl rfl)⟩) (memc (⟨mo_X11_isLine, Or.inl (wt7 50 rfl rfl)⟩) (memc (⟨mo_X11_lightIn, Or.inl (wt7 54 rfl rfl)⟩) (memc (⟨mo_X11_isOpen, Or.inl (wt7 82 rfl rfl)⟩) (memc (⟨mo_X11_isCut, Or.inl (wt7 78 rfl rfl)⟩) (memc (⟨mo_X11_stateOf, Or.inl (wt7 74 rfl rfl)⟩) (memc (⟨mo_X11_roomOf, Or.inl (wt7 86 rfl rfl)⟩) (memc (⟨mo_X11_roomsNow, Or.inl (wt7 90 rfl rfl)⟩) (memc (⟨mo_X11_leads, Or.inl (wt7 94 rfl rfl)⟩) (memc (⟨mo_X11_aheadOf, Or.inl (wt7 107 rfl rfl)⟩) (memc (⟨mo_X11_look, Or.inl (wt7 141 rfl rfl)⟩) (memc (⟨mo_X11_wants, Or.inl (wt7 149 rfl rfl)⟩) (memc (⟨mo_X11_is, Or.inl (wt7 161 rfl rfl)⟩) (memc (⟨mo_X11_next, Or.inl (wt7 137 rfl rfl)⟩) (memc (⟨mo_X11_nameNow, Or.inl (wt7 157 rfl rfl)⟩) (memc (⟨mo_X11_readNumber, Or.inl (wt7 170 rfl rfl)⟩) (memc (⟨mo_X11_readName, Or.inl (wt7 174 rfl rfl)⟩) (memc (⟨mo_X11_readRent, Or.inl (wt7 165 rfl rfl)⟩) (memc (⟨mo_X11_least, Or.inl (wt7 178 rfl rfl)⟩) (memc (⟨mo_X11_most, Or.inl (wt7 181 rfl rfl)⟩) (memc (⟨mo_X11_readLine, Or.inl (wt7 153 rfl rfl)⟩) (memc (⟨mo_X11_isDemand, Or.inl (wt7 206 rfl rfl)⟩) (memc (⟨mo_X11_other, Or.inl (wt7 103 rfl rfl)⟩) (memc (⟨mo_X11_findWay, Or.inl (wt7 98 rfl rfl)⟩) (memc (⟨mo_X11_partsBy, Or.inl (wt7 224 rfl rfl)⟩) (memc (⟨mo_X11_swingsOnce, Or.inl (wt7 237 rfl rfl)⟩) (memc (⟨mo_X11_areAlike, Or.inl (wt8 6 rfl rfl)⟩) (memc (⟨mo_X11_isBreak, Or.inl (wt8 18 rfl rfl)⟩) (memc (⟨mo_X11_xAt, Or.inl (wt8 27 rfl rfl)⟩) (memc (⟨mo_X11_yAt, Or.inl (wt8 31 rfl rfl)⟩) (memc (⟨mo_X11_isShip, Or.inl (wt8 51 rfl rfl)⟩) (memc (⟨mo_X11_mayDo, Or.inl (wt8 60 rfl rfl)⟩) (memc (⟨mo_X11_takesReel, Or.inl (wt8 64 rfl rfl)⟩) (memc (⟨mo_X11_startOf, Or.inl (wt8 68 rfl rfl)⟩) (memc (⟨mo_X11_hoursTo, Or.inl (wt8 72 rfl rfl)⟩) (memc (⟨mo_X11_weightOf, Or.inl (wt8 93 rfl rfl)⟩) (memc (⟨mo_X11_legOf, Or.inl (wt8 97 rfl rfl)⟩) (memc (⟨mo_X11_findListed, Or.inl (wt8 80 rfl rfl)⟩) (memc (⟨mo_X11_costBy, Or.inl (wt8 88 rfl rfl)⟩) (memc (⟨mo_X11_findOrder, Or.inl (wt8 84 rfl rfl)⟩) (memc (⟨mo_X11_bits, Or.inl (wt8 105 rfl rfl)⟩) (memc (⟨mo_X11_wasOpen, Or.inl (wt8 116 rfl rfl)⟩) (memc (⟨mo_X11_coins, Or.inl (wt8 112 rfl rfl)⟩) (memc (⟨mo_X11_areJoined, Or.inl (wt8 136 rfl rfl)⟩) (memc (⟨mo_X11_isSafe, Or.inl (wt8 132 rfl rfl)⟩) (memc (⟨mo_X11_isSheet, Or.inl (wt8 144 rfl rfl)⟩) (memn))))))))))))))))))))))))))))))))))))))))))))))))))
set_option maxRecDepth 20000 in
theorem io_X11 : ∀ q ∈ il_X11, ilOK 11 q := memc (wt7 102 rfl rfl) (memc (wt8 92 rfl rfl) (memn))
set_option maxRecDepth 20000 in
theorem jo_X11 : ∀ q ∈ jl_X11, jlOK 11 q := memc (wt7 32 rfl rfl) (memc (wt7 44 rfl rfl) (memc (wt7 45 rfl rfl) (memc (wt7 73 rfl rfl) (memc (wt7 123 rfl rfl) (memc (wt7 128 rfl rfl) (memc (wt7 145 rfl rfl) (memc (wt7 146 rfl rfl) (memc (wt7 147 rfl rfl) (memc (wt7 148 rfl rfl) (memc (wt7 169 rfl rfl) (memc (wt7 192 rfl rfl) (memc (wt7 197 rfl rfl) (memc (wt7 214 rfl rfl) (memc (wt7 223 rfl rfl) (memc (wt7 236 rfl rfl) (memc (wt8 5 rfl rfl) (memc (wt8 22 rfl rfl) (memc (wt8 55 rfl rfl) (memn)))))))))))))))))))
set_option maxRecDepth 20000 in
theorem mmo_X11 : ∀ q ∈ mm_X11, mmOK 11 q := memn
set_option maxRecDepth 20000 in
theorem ao_X11 : ∀ q ∈ ac_X11, acOK 11 q := memn
set_option maxRecDepth 20000 in
theorem fo_J0 : ∀ q ∈ fl_J0, flOK 12 q := memn
set_option maxRecDepth 20000 in
theorem mlo_J0 : ∀ q ∈ ml_J0, mlOK 12 q := memc (⟨mo_J0_coder_7d493, Or.inl (wt3 224 rfl rfl)⟩) (memc (⟨mo_J0_isLatin1_aae02, Or.inl (wt3 234 rfl rfl)⟩) (memc (⟨mo_J1_charAt_3b067, Or.inl (wt3 238 rfl rfl)⟩) (memc (⟨mo_J3_checkIndex_8e157, Or.inl (wt4 6 rfl rfl)⟩) (memn))))
set_option maxRecDepth 20000 in
theorem io_J0 : ∀ q ∈ il_J0, ilOK 12 q := memn
set_option maxRecDepth 20000 in
theorem jo_J0 : ∀ q ∈ jl_J0, jlOK 12 q := memn
set_option maxRecDepth 20000 in
theorem mmo_J0 : ∀ q ∈ mm_J0, mmOK 12 q := memn
set_option maxRecDepth 20000 in
theorem ao_J0 : ∀ q ∈ ac_J0, acOK 12 q := memn
set_option maxRecDepth 20000 in
theorem fo_J1 : ∀ q ∈ fl_J1, flOK 13 q := memn
set_option maxRecDepth 20000 in
theorem mlo_J1 : ∀ q ∈ ml_J1, mlOK 13 q := memc (⟨mo_J0_checkIndex_df160, Or.inl (wt4 1 rfl rfl)⟩) (memn)
set_option maxRecDepth 20000 in
theorem io_J1 : ∀ q ∈ il_J1, ilOK 13 q := memn
set_option maxRecDepth 20000 in
theorem jo_J1 : ∀ q ∈ jl_J1, jlOK 13 q := memn
set_option maxRecDepth 20000 in
theorem mmo_J1 : ∀ q ∈ mm_J1, mmOK 13 q := memn
set_option maxRecDepth 20000 in
theorem ao_J1 : ∀ q ∈ ac_J1, acOK 13 q := memn
set_option maxRecDepth 20000 in
theorem fo_J3 : ∀ q ∈ fl_J3, flOK 14 q := memn
set_option maxRecDepth 20000 in
theorem mlo_J3 : ∀ q ∈ ml_J3, mlOK 14 q := memn
set_option maxRecDepth 20000 in
theorem io_J3 : ∀ q ∈ il_J3, ilOK 14 q := memn
set_option maxRecDepth 20000 in
theorem jo_J3 : ∀ q ∈ jl_J3, jlOK 14 q := memn
set_option maxRecDepth 20000 in
theorem mmo_J3 : ∀ q ∈ mm_J3, mmOK 14 q := memn
set_option maxRecDepth 20000 in
theorem ao_J3 : ∀ q ∈ ac_J3, acOK 14 q := memn
set_option maxRecDepth 20000 in
theorem fo_J6 : ∀ q ∈ fl_J6, flOK 15 q := memn
set_option maxRecDepth 20000 in
theorem mlo_J6 : ∀ q ∈ ml_J6, mlOK 15 q := memn
set_option maxRecDepth 20000 in
theorem io_J6 : ∀ q ∈ il_J6, ilOK 15 q := memc (wt5 202 rfl rfl) (memc (wt5 151 rfl rfl) (memc (wt5 152 rfl rfl) (memc (wt5 153 rfl rfl) (memn))))
set_option maxRecDepth 20000 in
theorem jo_J6 : ∀ q ∈ jl_J6, jlOK 15 q := memn
set_option maxRecDepth 20000 in
theorem mmo_J6 : ∀ q ∈ mm_J6, mmOK 15 q := memn
set_option maxRecDepth 20000 in
theorem ao_J6 : ∀ q ∈ ac_J6, acOK 15 q := memn
set_option maxRecDepth 20000 in
theorem fo_J7 : ∀ q ∈ fl_J7, flOK 16 q := memn
set_option maxRecDepth 20000 in
theorem mlo_J7 : ∀ q ∈ ml_J7, mlOK 16 q := memn
set_option maxRecDepth 20000 in
theorem io_J7 : ∀ q ∈ il_J7, ilOK 16 q := memn
set_option maxRecDepth 20000 in
theorem jo_J7 : ∀ q ∈ jl_J7, jlOK 16 q := memn
set_option maxRecDepth 20000 in
theorem mmo_J7 : ∀ q ∈ mm_J7, mmOK 16 q := memn
set_option maxRecDepth 20000 in
theorem ao_J7 : ∀ q ∈ ac_J7, acOK 16 q := memn
set_option maxRecDepth 20000 in
theorem fo_J9 : ∀ q ∈ fl_J9, flOK 17 q := memn
set_option maxRecDepth 20000 in
theorem mlo_J9 : ∀ q ∈ ml_J9, mlOK 17 q := memn
set_option maxRecDepth 20000 in
theorem io_J9 : ∀ q ∈ il_J9, ilOK 17 q := memn
set_option maxRecDepth 20000 in
theorem jo_J9 : ∀ q ∈ jl_J9, jlOK 17 q := memn
set_option maxRecDepth 20000 in
theorem mmo_J9 : ∀ q ∈ mm_J9, mmOK 17 q := memn
set_option maxRecDepth 20000 in
theorem ao_J9 : ∀ q ∈ ac_J9, acOK 17 q := memn
set_option maxRecDepth 20000 in
theorem fo_L : ∀ q ∈ fl_L, flOK 18 q := memn
set_option maxRecDepth 20000 in
theorem mlo_L : ∀ q ∈ ml_L, mlOK 18 q := memc (⟨mo_X10_land, Or.inl (wt3 46 rfl rfl)⟩) (memc (⟨mo_X11_land, Or.inl (wt7 28 rfl rfl)⟩) (memc (⟨mo_X10_line, Or.inl (wt3 57 rfl rfl)⟩) (memc (⟨mo_X11_line, Or.inl (wt7 36 rfl rfl)⟩) (memc (⟨mo_X10_lineOf, Or.inl (wt3 76 rfl rfl)⟩) (memc (⟨mo_X11_lineOf, Or.inl (wt7 69 rfl rfl)⟩) (memc (⟨mo_X10_light, Or.inl (wt3 152 rfl rfl)⟩) (memc (⟨mo_X11_light, Or.inl (wt7 46 rfl rfl)⟩) (memc (⟨mo_X10_until, Or.inl (wt3 157 rfl rfl)⟩) (memc (⟨mo_X11_until, Or.inl (wt7 65 rfl rfl)⟩) (memc (⟨mo_X10_change, Or.inl (wt3 161 rfl rfl)⟩) (memc (⟨mo_X11_change, Or.inl (wt7 111 rfl rfl)⟩) (memc (⟨mo_X10_year, Or.inl (wt3 165 rfl rfl)⟩) (memc (⟨mo_X11_year, Or.inl (wt7 115 rfl rfl)⟩) (memc (⟨mo_X10_hour, Or.inl (wt3 169 rfl rfl)⟩) (memc (⟨mo_X11_hour, Or.inl (wt7 119 rfl rfl)⟩) (memc (⟨mo_X10_feed, Or.inl (wt3 173 rfl rfl)⟩) (memc (⟨mo_X11_feed, Or.inl (wt7 124 rfl rfl)⟩) (memc (⟨mo_X10_end, Or.inl (wt3 181 rfl rfl)⟩) (memc (⟨mo_X11_end, Or.inl (wt7 129 rfl rfl)⟩) (memc (⟨mo_X10_rules, Or.inl (wt3 190 rfl rfl)⟩) (memc (⟨mo_X11_rules, Or.inl (wt7 133 rfl rfl)⟩) (memc (⟨mo_X10_fault, Or.inl (wt4 75 rfl rfl)⟩) (memc (⟨mo_X11_fault, Or.inl (wt7 184 rfl rfl)⟩) (memc (⟨mo_X10_rule, Or.inl (wt4 79 rfl rfl)⟩) (memc (⟨mo_X11_rule, Or.inl (wt7 188 rfl rfl)⟩) (memc (⟨mo_X10_rent, Or.inl (wt4 83 rfl rfl)⟩) (memc (⟨mo_X11_rent, Or.inl (wt7 193 rfl rfl)⟩) (memc (⟨mo_X10_demand, Or.inl (wt4 87 rfl rfl)⟩) (memc (⟨mo_X11_demand, Or.inl (wt7 198 rfl rfl)⟩) (memc (⟨mo_X10_much, Or.inl (wt4 95 rfl rfl)⟩) (memc (⟨mo_X11_much, Or.inl (wt7 202 rfl rfl)⟩) (memc (⟨mo_X10_led, Or.inl (wt4 103 rfl rfl)⟩) (memc (⟨mo_X11_led, Or.inl (wt7 210 rfl rfl)⟩) (memc (⟨mo_X10_way, Or.inl (wt4 109 rfl rfl)⟩) (memc (⟨mo_X11_way, Or.inl (wt7 215 rfl rfl)⟩) (memc (⟨mo_X10_parts, Or.inl (wt4 117 rfl rfl)⟩) (memc (⟨mo_X11_parts, Or.inl (wt7 219 rfl rfl)⟩) (memc (⟨mo_X10_worst, Or.inl (wt4 129 rfl rfl)⟩) (memc (⟨mo_X11_worst, Or.inl (wt7 228 rfl rfl)⟩) (memc (⟨mo_X10_swing, Or.inl (wt4 133 rfl rfl)⟩) (memc (⟨mo_X11_swing, Or.inl (wt7 232 rfl rfl)⟩) (memc (⟨mo_X10_swings, Or.inl (wt4 158 rfl rfl)⟩) (memc (⟨mo_X11_swings, Or.inl (wt8 1 rfl rfl)⟩) (memc (⟨mo_X10_cut, Or.inl (wt4 171 rfl rfl)⟩) (memc (⟨mo_X11_cut, Or.inl (wt8 10 rfl rfl)⟩) (memc (⟨mo_X10_echo, Or.inl (wt4 180 rfl rfl)⟩) (memc (⟨mo_X11_echo, Or.inl (wt8 14 rfl rfl)⟩) (memc (⟨mo_X10_breakOf, Or.inl (wt4 200 rfl rfl)⟩) (memc (⟨mo_X11_breakOf, Or.inl (wt8 23 rfl rfl)⟩) (memc (⟨mo_X10_quake, Or.inl (wt4 218 rfl rfl)⟩) (memc (⟨mo_X11_quake, Or.inl (wt8 35 rfl rfl)⟩) (memc (⟨mo_X10_shared, Or.inl (wt4 236 rfl rfl)⟩) (memc (⟨mo_X11_shared, Or.inl (wt8 39 rfl rfl)⟩) (memc (⟨mo_X10_ship, Or.inl (wt5 6 rfl rfl)⟩) (memc (⟨mo_X11_ship, Or.inl (wt8 43 rfl rfl)⟩) (memc (⟨mo_X10_shipOf, Or.inl (wt5 14 rfl rfl)⟩) (memc (⟨mo_X11_shipOf, Or.inl (wt8 47 rfl rfl)⟩) (memc (⟨mo_X10_send, Or.inl (wt5 22 rfl rfl)⟩) (memc (⟨mo_X11_send, Or.inl (wt8 56 rfl rfl)⟩) (memc (⟨mo_X10_order, Or.inl (wt5 62 rfl rfl)⟩) (memc (⟨mo_X11_order, Or.inl (wt8 76 rfl rfl)⟩) (memc (⟨mo_X10_plain, Or.inl (wt5 124 rfl rfl)⟩) (memc (⟨mo_X11_plain, Or.inl (wt8 101 rfl rfl)⟩) (memc (⟨mo_X10_owed, Or.inl (wt5 154 rfl rfl)⟩) (memc (⟨mo_X11_owed, Or.inl (wt8 108 rfl rfl)⟩) (memc (⟨mo_X10_paid, Or.inl (wt5 171 rfl rfl)⟩) (memc (⟨mo_X11_paid, Or.inl (wt8 120 rfl rfl)⟩) (memc (⟨mo_X10_plan, Or.inl (wt5 175 rfl rfl)⟩) (memc (⟨mo_X11_plan, Or.inl (wt8 124 rfl rfl)⟩) (memc (⟨mo_X10_safe, Or.inl (wt5 179 rfl rfl)⟩) (memc (⟨mo_X11_safe, Or.inl (wt8 128 rfl rfl)⟩) (memc (⟨mo_X10_sheet, Or.inl (wt5 225 rfl rfl)⟩) (memc (⟨mo_X11_sheet, Or.inl (wt8 140 rfl rfl)⟩) (memc (⟨mo_X10_lay, Or.inl (wt6 1 rfl rfl)⟩) (memc (⟨mo_X11_lay, Or.inl (wt8 147 rfl rfl)⟩) (memc (⟨mo_X10_read, Or.inl (wt6 17 rfl rfl)⟩) (memc (⟨mo_X11_read, Or.inl (wt8 151 rfl rfl)⟩) (memc (⟨mo_X10_count, Or.inl (wt6 21 rfl rfl)⟩) (memc (⟨mo_X11_count, Or.inl (wt8 155 rfl rfl)⟩) (memn))))))))))))))))))))))))))))))))))))))))))))))))))))))))))))))))))))))))))))))))
set_option maxRecDepth 20000 in
theorem io_L : ∀ q ∈ il_L, ilOK 18 q := memn
set_option maxRecDepth 20000 in
theorem jo_L : ∀ q ∈ jl_L, jlOK 18 q := memc (wt8 159 rfl rfl) (memn)
set_option maxRecDepth 20000 in
theorem mmo_L : ∀ q ∈ mm_L, mmOK 18 q := memn
set_option maxRecDepth 20000 in
theorem ao_L : ∀ q ∈ ac_L, acOK 18 q := memn
theorem flC_ok (c : Nat) (hc : c < 19) : ∀ q ∈ flC c, flOK c q := by
  match c, hc with
  | 0, _ => exact fo_X0
  | 1, _ => exact fo_X1
  | 2, _ => exact fo_X2
  | 3, _ => exact fo_X3
  | 4, _ => exact fo_X4
  | 5, _ => exact fo_X5
  | 6, _ => exact fo_X6
  | 7, _ => exact fo_X7
  | 8, _ => exact fo_X8
  | 9, _ => exact fo_X9
  | 10, _ => exact fo_X10
  | 11, _ => exact fo_X11
  | 12, _ => exact fo_J0
  | 13, _ => exact fo_J1
  | 14, _ => exact fo_J3
  | 15, _ => exact fo_J6
  | 16, _ => exact fo_J7
  | 17, _ => exact fo_J9
  | 18, _ => exact fo_L
  | n + 19, h => exact absurd h (by omega)
theorem mlC_ok (c : Nat) (hc : c < 19) : ∀ q ∈ mlC c, mlOK c q := by
  match c, hc with
  | 0, _ => exact mlo_X0
  | 1, _ => exact mlo_X1
  | 2, _ => exact mlo_X2
  | 3, _ => exact mlo_X3
  | 4, _ => exact mlo_X4
  | 5, _ => exact mlo_X5
  | 6, _ => exact mlo_X6
  | 7, _ => exact mlo_X7
  | 8, _ => exact mlo_X8
  | 9, _ => exact mlo_X9
  | 10, _ => exact mlo_X10
  | 11, _ => exact mlo_X11
  | 12, _ => exact mlo_J0
  | 13, _ => exact mlo_J1
  | 14, _ => exact mlo_J3
  | 15, _ => exact mlo_J6
  | 16, _ => exact mlo_J7
  | 17, _ => exact mlo_J9
  | 18, _ => exact mlo_L
  | n + 19, h => exact absurd h (by omega)
theorem ilC_ok (c : Nat) (hc : c < 19) : ∀ q ∈ ilC c, ilOK c q := by
  match c, hc with
  | 0, _ => exact io_X0
  | 1, _ => exact io_X1
  | 2, _ => exact io_X2
  | 3, _ => exact io_X3
  | 4, _ => exact io_X4
  | 5, _ => exact io_X5
  | 6, _ => exact io_X6
  | 7, _ => exact io_X7
  | 8, _ => exact io_X8
  | 9, _ => exact io_X9
  | 10, _ => exact io_X10
  | 11, _ => exact io_X11
  | 12, _ => exact io_J0
  | 13, _ => exact io_J1
  | 14, _ => exact io_J3
  | 15, _ => exact io_J6
  | 16, _ => exact io_J7
  | 17, _ => exact io_J9
  | 18, _ => exact io_L
  | n + 19, h => exact absurd h (by omega)
theorem jlC_ok (c : Nat) (hc : c < 19) : ∀ q ∈ jlC c, jlOK c q := by
  match c, hc with
  | 0, _ => exact jo_X0
  | 1, _ => exact jo_X1
  | 2, _ => exact jo_X2
  | 3, _ => exact jo_X3
  | 4, _ => exact jo_X4
  | 5, _ => exact jo_X5
  | 6, _ => exact jo_X6
  | 7, _ => exact jo_X7
  | 8, _ => exact jo_X8
  | 9, _ => exact jo_X9
  | 10, _ => exact jo_X10
  | 11, _ => exact jo_X11
  | 12, _ => exact jo_J0
  | 13, _ => exact jo_J1
  | 14, _ => exact jo_J3
  | 15, _ => exact jo_J6
  | 16, _ => exact jo_J7
  | 17, _ => exact jo_J9
  | 18, _ => exact jo_L
  | n + 19, h => exact absurd h (by omega)
theorem acC_ok (c : Nat) (hc : c < 19) : ∀ q ∈ acC c, acOK c q := by
  match c, hc with
  | 0, _ => exact ao_X0
  | 1, _ => exact ao_X1
  | 2, _ => exact ao_X2
  | 3, _ => exact ao_X3
  | 4, _ => exact ao_X4
  | 5, _ => exact ao_X5
  | 6, _ => exact ao_X6
  | 7, _ => exact ao_X7
  | 8, _ => exact ao_X8
  | 9, _ => exact ao_X9
  | 10, _ => exact ao_X10
  | 11, _ => exact ao_X11
  | 12, _ => exact ao_J0
  | 13, _ => exact ao_J1
  | 14, _ => exact ao_J3
  | 15, _ => exact ao_J6
  | 16, _ => exact ao_J7
  | 17, _ => exact ao_J9
  | 18, _ => exact ao_L
  | n + 19, h => exact absurd h (by omega)
theorem mmC_ok (c : Nat) (hc : c < 19) : ∀ q ∈ mmC c, mmOK c q := by
  match c, hc with
  | 0, _ => exact mmo_X0
  | 1, _ => exact mmo_X1
  | 2, _ => exact mmo_X2
  | 3, _ => exact mmo_X3
  | 4, _ => exact mmo_X4
  | 5, _ => exact mmo_X5
  | 6, _ => exact mmo_X6
  | 7, _ => exact mmo_X7
  | 8, _ => exact mmo_X8
  | 9, _ => exact mmo_X9
  | 10, _ => exact mmo_X10
  | 11, _ => exact mmo_X11
  | 12, _ => exact mmo_J0
  | 13, _ => exact mmo_J1
  | 14, _ => exact mmo_J3
  | 15, _ => exact mmo_J6
  | 16, _ => exact mmo_J7
  | 17, _ => exact mmo_J9
  | 18, _ => exact mmo_L
  | n + 19, h => exact absurd h (by omega)
set_option maxRecDepth 20000 in
theorem mmw0 : Cond.static (mmN 0) ∈ wF ∧ Cond.initialized "java/lang/Math" ∈ wF ∧ Cond.code (mmN 0) (mmB 0) 1 (some .int) ∈ wF := ⟨wt3 74 rfl rfl, wt1 8 rfl rfl, wFm 638 (by decide +kernel) rfl⟩
set_option maxRecDepth 20000 in
theorem mmw1 : Cond.static (mmN 1) ∈ wF ∧ Cond.initialized "java/lang/Math" ∈ wF ∧ Cond.code (mmN 1) (mmB 1) 2 (some .int) ∈ wF := ⟨wt1 237 rfl rfl, wt1 8 rfl rfl, wFm 321 (by decide +kernel) rfl⟩
set_option maxRecDepth 20000 in
theorem mmw2 : Cond.static (mmN 2) ∈ wF ∧ Cond.initialized "java/lang/Math" ∈ wF ∧ Cond.code (mmN 2) (mmB 2) 2 (some .int) ∈ wF := ⟨wt4 198 rfl rfl, wt1 8 rfl rfl, wFm 1002 (by decide +kernel) rfl⟩
set_option maxRecDepth 20000 in
theorem acw : Cond.native arraycopyName ∈ wF ∧ Cond.static arraycopyName ∈ wF ∧ Cond.initialized "java/lang/System" ∈ wF := ⟨wt1 45 rfl rfl, wt1 44 rfl rfl, wt1 3 rfl rfl⟩
theorem uv_X0 : u_ws RX0 TX0 10 = [u_lay RX0 TX0 0, u_lay RX0 TX0 1, u_lay RX0 TX0 2, u_lay RX0 TX0 3, u_lay RX0 TX0 4, u_lay RX0 TX0 5, u_lay RX0 TX0 6, u_lay RX0 TX0 7, u_lay RX0 TX0 8, u_lay RX0 TX0 9] := by decide +kernel
set_option maxRecDepth 20000 in
theorem ul_X0 : ∀ w ∈ u_ws RX0 TX0 10, w ∈ wF := by
  rw [uv_X0]
  exact memc (wt1 209 rfl rfl) (memc (wt1 211 rfl rfl) (memc (wt1 213 rfl rfl) (memc (wt1 215 rfl rfl) (memc (wt1 217 rfl rfl) (memc (wt1 219 rfl rfl) (memc (wt1 221 rfl rfl) (memc (wt1 223 rfl rfl) (memc (wt1 225 rfl rfl) (memc (wt1 227 rfl rfl) (memn))))))))))
theorem uv_X1 : u_ws RX1 TX1 9 = [u_lay RX1 TX1 0, u_lay RX1 TX1 1, u_lay RX1 TX1 2, u_lay RX1 TX1 3, u_lay RX1 TX1 4, u_lay RX1 TX1 5, u_lay RX1 TX1 6, u_lay RX1 TX1 7, u_lay RX1 TX1 8] := by decide +kernel
set_option maxRecDepth 20000 in
theorem ul_X1 : ∀ w ∈ u_ws RX1 TX1 9, w ∈ wF := by
  rw [uv_X1]
  exact memc (wt2 104 rfl rfl) (memc (wt2 106 rfl rfl) (memc (wt2 108 rfl rfl) (memc (wt2 110 rfl rfl) (memc (wt2 112 rfl rfl) (memc (wt2 114 rfl rfl) (memc (wt2 116 rfl rfl) (memc (wt2 118 rfl rfl) (memc (wt2 120 rfl rfl) (memn)))))))))
theorem uv_X2 : u_ws RX2 TX2 20 = [u_lay RX2 TX2 0, u_lay RX2 TX2 1, u_lay RX2 TX2 2, u_lay RX2 TX2 3, u_lay RX2 TX2 4, u_lay RX2 TX2 5, u_lay RX2 TX2 6, u_lay RX2 TX2 7, u_lay RX2 TX2 8, u_lay RX2 TX2 9, u_lay RX2 TX2 10, u_lay RX2 TX2 11, u_lay RX2 TX2 12, u_lay RX2 TX2 13, u_lay RX2 TX2 14, u_lay RX2 TX2 15, u_lay RX2 TX2 16, u_lay RX2 TX2 17, u_lay RX2 TX2 18, u_lay RX2 TX2 19] := by decide +kernel
set_option maxRecDepth 20000 in
theorem ul_X2 : ∀ w ∈ u_ws RX2 TX2 20, w ∈ wF := by
  rw [uv_X2]
  exact memc (wt2 152 rfl rfl) (memc (wt2 154 rfl rfl) (memc (wt2 156 rfl rfl) (memc (wt2 158 rfl rfl) (memc (wt2 160 rfl rfl) (memc (wt2 162 rfl rfl) (memc (wt2 164 rfl rfl) (memc (wt2 166 rfl rfl) (memc (wt2 168 rfl rfl) (memc (wt2 170 rfl rfl) (memc (wt2 172 rfl rfl) (memc (wt2 174 rfl rfl) (memc (wt2 176 rfl rfl) (memc (wt2 178 rfl rfl) (memc (wt2 180 rfl rfl) (memc (wt2 182 rfl rfl) (memc (wt2 184 rfl rfl) (memc (wt2 186 rfl rfl) (memc (wt2 188 rfl rfl) (memc (wt2 190 rfl rfl) (memn))))))))))))))))))))
theorem uv_X3 : u_ws RX3 TX3 13 = [u_lay RX3 TX3 0, u_lay RX3 TX3 1, u_lay RX3 TX3 2, u_lay RX3 TX3 3, u_lay RX3 TX3 4, u_lay RX3 TX3 5, u_lay RX3 TX3 6, u_lay RX3 TX3 7, u_lay RX3 TX3 8, u_lay RX3 TX3 9, u_lay RX3 TX3 10, u_lay RX3 TX3 11, u_lay RX3 TX3 12] := by decide +kernel
set_option maxRecDepth 20000 in
theorem ul_X3 : ∀ w ∈ u_ws RX3 TX3 13, w ∈ wF := by
  rw [uv_X3]
  exact memc (wt1 148 rfl rfl) (memc (wt1 150 rfl rfl) (memc (wt1 152 rfl rfl) (memc (wt1 154 rfl rfl) (memc (wt1 156 rfl rfl) (memc (wt1 158 rfl rfl) (memc (wt1 160 rfl rfl) (memc (wt1 162 rfl rfl) (memc (wt1 164 rfl rfl) (memc (wt1 166 rfl rfl) (memc (wt1 168 rfl rfl) (memc (wt1 170 rfl rfl) (memc (wt1 172 rfl rfl) (memn)))))))))))))
theorem uv_X4 : u_ws RX4 TX4 10 = [u_lay RX4 TX4 0, u_lay RX4 TX4 1, u_lay RX4 TX4 2, u_lay RX4 TX4 3, u_lay RX4 TX4 4, u_lay RX4 TX4 5, u_lay RX4 TX4 6, u_lay RX4 TX4 7, u_lay RX4 TX4 8, u_lay RX4 TX4 9] := by decide +kernel
set_option maxRecDepth 20000 in
theorem ul_X4 : ∀ w ∈ u_ws RX4 TX4 10, w ∈ wF := by
  rw [uv_X4]
  exact memc (wt1 85 rfl rfl) (memc (wt1 87 rfl rfl) (memc (wt1 89 rfl rfl) (memc (wt1 91 rfl rfl) (memc (wt1 93 rfl rfl) (memc (wt1 95 rfl rfl) (memc (wt1 97 rfl rfl) (memc (wt1 99 rfl rfl) (memc (wt1 101 rfl rfl) (memc (wt1 103 rfl rfl) (memn))))))))))
theorem uv_X5 : u_ws RX5 TX5 3 = [u_lay RX5 TX5 0, u_lay RX5 TX5 1, u_lay RX5 TX5 2] := by decide +kernel
set_option maxRecDepth 20000 in
theorem ul_X5 : ∀ w ∈ u_ws RX5 TX5 3, w ∈ wF := by
  rw [uv_X5]
  exact memc (wt1 57 rfl rfl) (memc (wt1 59 rfl rfl) (memc (wt1 61 rfl rfl) (memn)))
theorem uv_X6 : u_ws RX6 TX6 9 = [u_lay RX6 TX6 0, u_lay RX6 TX6 1, u_lay RX6 TX6 2, u_lay RX6 TX6 3, u_lay RX6 TX6 4, u_lay RX6 TX6 5, u_lay RX6 TX6 6, u_lay RX6 TX6 7, u_lay RX6 TX6 8] := by decide +kernel
set_option maxRecDepth 20000 in
theorem ul_X6 : ∀ w ∈ u_ws RX6 TX6 9, w ∈ wF := by
  rw [uv_X6]
  exact memc (wt2 210 rfl rfl) (memc (wt2 212 rfl rfl) (memc (wt2 214 rfl rfl) (memc (wt2 216 rfl rfl) (memc (wt2 218 rfl rfl) (memc (wt2 220 rfl rfl) (memc (wt2 222 rfl rfl) (memc (wt2 224 rfl rfl) (memc (wt2 226 rfl rfl) (memn)))))))))
theorem uv_X7 : u_ws RX7 TX7 3 = [u_lay RX7 TX7 0, u_lay RX7 TX7 1, u_lay RX7 TX7 2] := by decide +kernel
set_option maxRecDepth 20000 in
theorem ul_X7 : ∀ w ∈ u_ws RX7 TX7 3, w ∈ wF := by
  rw [uv_X7]
  exact memc (wt3 5 rfl rfl) (memc (wt3 7 rfl rfl) (memc (wt3 9 rfl rfl) (memn)))
theorem uv_X8 : u_ws RX8 TX8 4 = [u_lay RX8 TX8 0, u_lay RX8 TX8 1, u_lay RX8 TX8 2, u_lay RX8 TX8 3] := by decide +kernel
set_option maxRecDepth 20000 in
theorem ul_X8 : ∀ w ∈ u_ws RX8 TX8 4, w ∈ wF := by
  rw [uv_X8]
  exact memc (wt2 13 rfl rfl) (memc (wt2 15 rfl rfl) (memc (wt2 17 rfl rfl) (memc (wt2 19 rfl rfl) (memn))))
theorem uv_X9 : u_ws RX9 TX9 15 = [u_lay RX9 TX9 0, u_lay RX9 TX9 1, u_lay RX9 TX9 2, u_lay RX9 TX9 3, u_lay RX9 TX9 4, u_lay RX9 TX9 5, u_lay RX9 TX9 6, u_lay RX9 TX9 7, u_lay RX9 TX9 8, u_lay RX9 TX9 9, u_lay RX9 TX9 10, u_lay RX9 TX9 11, u_lay RX9 TX9 12, u_lay RX9 TX9 13, u_lay RX9 TX9 14] := by decide +kernel
set_option maxRecDepth 20000 in
theorem ul_X9 : ∀ w ∈ u_ws RX9 TX9 15, w ∈ wF := by
  rw [uv_X9]
  exact memc (wt2 48 rfl rfl) (memc (wt2 50 rfl rfl) (memc (wt2 52 rfl rfl) (memc (wt2 54 rfl rfl) (memc (wt2 56 rfl rfl) (memc (wt2 58 rfl rfl) (memc (wt2 60 rfl rfl) (memc (wt2 62 rfl rfl) (memc (wt2 64 rfl rfl) (memc (wt2 66 rfl rfl) (memc (wt2 68 rfl rfl) (memc (wt2 70 rfl rfl) (memc (wt2 72 rfl rfl) (memc (wt2 74 rfl rfl) (memc (wt2 76 rfl rfl) (memn)))))))))))))))
theorem uv_X10 : u_ws RX10 TX10 11 = [u_lay RX10 TX10 0, u_lay RX10 TX10 1, u_lay RX10 TX10 2, u_lay RX10 TX10 3, u_lay RX10 TX10 4, u_lay RX10 TX10 5, u_lay RX10 TX10 6, u_lay RX10 TX10 7, u_lay RX10 TX10 8, u_lay RX10 TX10 9, u_lay RX10 TX10 10] := by decide +kernel
set_option maxRecDepth 20000 in
theorem ul_X10 : ∀ w ∈ u_ws RX10 TX10 11, w ∈ wF := by
  rw [uv_X10]
  exact memc (wt3 23 rfl rfl) (memc (wt3 25 rfl rfl) (memc (wt3 27 rfl rfl) (memc (wt3 29 rfl rfl) (memc (wt3 31 rfl rfl) (memc (wt3 33 rfl rfl) (memc (wt3 35 rfl rfl) (memc (wt3 37 rfl rfl) (memc (wt3 39 rfl rfl) (memc (wt3 41 rfl rfl) (memc (wt3 43 rfl rfl) (memn)))))))))))
theorem uv_X11 : u_ws RX11 TX11 74 = [u_lay RX11 TX11 0, u_lay RX11 TX11 1, u_lay RX11 TX11 2, u_lay RX11 TX11 3, u_lay RX11 TX11 4, u_lay RX11 TX11 5, u_lay RX11 TX11 6, u_lay RX11 TX11 7, u_lay RX11 TX11 8, u_lay RX11 TX11 9, u_lay RX11 TX11 10, u_lay RX11 TX11 11, u_lay RX11 TX11 12, u_lay RX11 TX11 13, u_lay RX11 TX11 14, u_lay RX11 TX11 15, u_lay RX11 TX11 16, u_lay RX11 TX11 17, u_lay RX11 TX11 18, u_lay RX11 TX11 19, u_lay RX11 TX11 20, u_lay RX11 TX11 21, u_lay RX11 TX11 22, u_lay RX11 TX11 23, u_lay RX11 TX11 24, u_lay RX11 TX11 25, u_lay RX11 TX11 26, u_lay RX11 TX11 27, u_lay RX11 TX11 28, u_lay RX11 TX11 29, u_lay RX11 TX11 30, u_lay RX11 TX11 31, u_lay RX11 TX11 32, u_lay RX11 TX11 33, u_lay RX11 TX11 34, u_lay RX11 TX11 35, u_lay RX11 TX11 36, u_lay RX11 TX11 37, u_lay RX11 TX11 38, u_lay RX11 TX11 39, u_lay RX11 TX11 40, u_lay RX11 TX11 41, u_lay RX11 TX11 42, u_lay RX11 TX11 43, u_lay RX11 TX11 44, u_lay RX11 TX11 45, u_lay RX11 TX11 46, u_lay RX11 TX11 47, u_lay RX11 TX11 48, u_lay RX11 TX11 49, u_lay RX11 TX11 50, u_lay RX11 TX11 51, u_lay RX11 TX11 52, u_lay RX11 TX11 53, u_lay RX11 TX11 54, u_lay RX11 TX11 55, u_lay RX11 TX11 56, u_lay RX11 TX11 57, u_lay RX11 TX11 58, u_lay RX11 TX11 59, u_lay RX11 TX11 60, u_lay RX11 TX11 61, u_lay RX11 TX11 62, u_lay RX11 TX11 63, u_lay RX11 TX11 64, u_lay RX11 TX11 65, u_lay RX11 TX11 66, u_lay RX11 TX11 67, u_lay RX11 TX11 68, u_lay RX11 TX11 69, u_lay RX11 TX11 70, u_lay RX11 TX11 71, u_lay RX11 TX11 72, u_lay RX11 TX11 73] := by decide +kernel
set_option maxRecDepth 20000 in
theorem ul_X11 : ∀ w ∈ u_ws RX11 TX11 74, w ∈ wF := by
  rw [uv_X11]
  exact memc (wt6 118 rfl rfl) (memc (wt6 120 rfl rfl) (memc (wt6 122 rfl rfl) (memc (wt6 124 rfl rfl) (memc (wt6 126 rfl rfl) (memc (wt6 128 rfl rfl) (memc (wt6 130 rfl rfl) (memc (wt6 132 rfl rfl) (memc (wt6 134 rfl rfl) (memc (wt6 136 rfl rfl) (memc (wt6 138 rfl rfl) (memc (wt6 140 rfl rfl) (memc (wt6 142 rfl rfl) (memc (wt6 144 rfl rfl) (memc (wt6 146 rfl rfl) (memc (wt6 148 rfl rfl) (memc (wt6 150 rfl rfl) (memc (wt6 152 rfl rfl) (memc (wt6 154 rfl rfl) (memc (wt6 156 rfl rfl) (memc (wt6 158 rfl rfl) (memc (wt6 160 rfl rfl) (memc (wt6 162 rfl rfl) (memc (wt6 164 rfl rfl) (memc (wt6 166 rfl rfl) (memc (wt6 168 rfl rfl) (memc (wt6 170 rfl rfl) (memc (wt6 172 rfl rfl) (memc (wt6 174 rfl rfl) (memc (wt6 176 rfl rfl) (memc (wt6 178 rfl rfl) (memc (wt6 180 rfl rfl) (memc (wt6 182 rfl rfl) (memc (wt6 184 rfl rfl) (memc (wt6 186 rfl rfl) (memc (wt6 188 rfl rfl) (memc (wt6 190 rfl rfl) (memc (wt6 192 rfl rfl) (memc (wt6 194 rfl rfl) (memc (wt6 196 rfl rfl) (memc (wt6 198 rfl rfl) (memc (wt6 200 rfl rfl) (memc (wt6 202 rfl rfl) (memc (wt6 204 rfl rfl) (memc (wt6 206 rfl rfl) (memc (wt6 208 rfl rfl) (memc (wt6 210 rfl rfl) (memc (wt6 212 rfl rfl) (memc (wt6 214 rfl rfl) (memc (wt6 216 rfl rfl) (memc (wt6 218 rfl rfl) (memc (wt6 220 rfl rfl) (memc (wt6 222 rfl rfl) (memc (wt6 224 rfl rfl) (memc (wt6 226 rfl rfl) (memc (wt6 228 rfl rfl) (memc (wt6 230 rfl rfl) (memc (wt6 232 rfl rfl) (memc (wt6 234 rfl rfl) (memc (wt6 236 rfl rfl) (memc (wt6 238 rfl rfl) (memc (wt7 0 rfl rfl) (memc (wt7 2 rfl rfl) (memc (wt7 4 rfl rfl) (memc (wt7 6 rfl rfl) (memc (wt7 8 rfl rfl) (memc (wt7 10 rfl rfl) (memc (wt7 12 rfl rfl) (memc (wt7 14 rfl rfl) (memc (wt7 16 rfl rfl) (memc (wt7 18 rfl rfl) (memc (wt7 20 rfl rfl) (memc (wt7 22 rfl rfl) (memc (wt7 24 rfl rfl) (memn))))))))))))))))))))))))))))))))))))))))))))))))))))))))))))))))))))))))))
/-- what is needed of a class whose objects the worlds hold -/
def clOK (q : vw_C) : Prop := (∀ w ∈ u_ws q.1 q.2.1 q.2.2, w ∈ wF) ∧ (∃ ty : Nat → FieldType, ∀ k, k < q.2.2 → parseFieldDescriptor (q.2.1 k).2.2.1 = some (ty k)) ∧ ∀ a, a < q.2.2 → ∀ b, b < q.2.2 → a ≠ b → (q.2.1 a).2.1 ≠ (q.2.1 b).2.1
theorem vwCl_ok : ∀ (ci : Nat) (q : vw_C), vwCl[ci]? = some q → clOK q := by
  intro ci q h
  match ci, h with
  | 0, h => cases h; exact ⟨ul_X0, ⟨tyX0, tyX0_ok⟩, nmX0⟩
  | 1, h => cases h; exact ⟨ul_X1, ⟨tyX1, tyX1_ok⟩, nmX1⟩
  | 2, h => cases h; exact ⟨ul_X2, ⟨tyX2, tyX2_ok⟩, nmX2⟩
  | 3, h => cases h; exact ⟨ul_X3, ⟨tyX3, tyX3_ok⟩, nmX3⟩
  | 4, h => cases h; exact ⟨ul_X4, ⟨tyX4, tyX4_ok⟩, nmX4⟩
  | 5, h => cases h; exact ⟨ul_X5, ⟨tyX5, tyX5_ok⟩, nmX5⟩
  | 6, h => cases h; exact ⟨ul_X6, ⟨tyX6, tyX6_ok⟩, nmX6⟩
  | 7, h => cases h; exact ⟨ul_X7, ⟨tyX7, tyX7_ok⟩, nmX7⟩
  | 8, h => cases h; exact ⟨ul_X8, ⟨tyX8, tyX8_ok⟩, nmX8⟩
  | 9, h => cases h; exact ⟨ul_X9, ⟨tyX9, tyX9_ok⟩, nmX9⟩
  | 10, h => cases h; exact ⟨ul_X10, ⟨tyX10, tyX10_ok⟩, nmX10⟩
  | 11, h => cases h; exact ⟨ul_X11, ⟨tyX11, tyX11_ok⟩, nmX11⟩
  | n + 12, h => simp [vwCl] at h
