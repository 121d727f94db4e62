/-! THE FIRST MEMORY, and the law's start -/
def sF (h : aH) : mSt := fun a => match h[a]? with
  | some (.inl q) => fun k => (match q.2[k]? with
    | some (.inr x) => x
    | _ => 0)
  | some (.inr (.inl q)) => fun j => q.2.getD j 0
  | _ => fun _ => 0
/-- the memory at the law's first call -/
def s_0 (xs : Nat → Int32) (L : Nat) : mSt := fun a => if a = idScr then xs else if a = idLen then fun _ => Int32.ofNat L else sF hL a
def shF : List aF → List (Option Nat) → Bool
  | [], [] => true
  | .inl (some b) :: t, some b' :: u => Nat.beq b b' && shF t u
  | .inr _ :: t, none :: u => shF t u
  | _, _ => false
def shC (a : Nat) (c : aC) : Bool := match c with
  | .inl q => (match oK a with
    | some r => Nat.beq r.1 q.1 && shF q.2 r.2
    | none => false)
  | .inr (.inl q) => cond (Nat.beq q.1 0) (decide (iK a = some q.2.length)) (decide (zK a = some q.2.length))
  | .inr (.inr q) => (match gK a with
    | some r => Nat.beq r.1 q.1 && Nat.beq q.2 (a + 1)
    | none => false)
def shO (a : Nat) : Bool := match hL[a]? with
  | some c => shC a c
  | none => false
theorem hL_len : hL.length = mNN := by decide +kernel
theorem sh_ok : ((List.range mNN).all shO) = true := by decide +kernel
theorem shF_ok : ∀ {fs : List aF} {rs : List (Option Nat)}, shF fs rs = true → fs.length = rs.length ∧ ∀ (k : Nat) (f : aF), fs[k]? = some f → (∃ b, f = .inl (some b) ∧ rs[k]? = some (some b)) ∨ (∃ x, f = .inr x ∧ rs[k]? = some none) := by
  intro fs
  induction fs with
  | nil =>
    intro rs h
    cases rs with
    | nil => exact ⟨rfl, fun k f hf => by simp at hf⟩
    | cons r rs => cases h
  | cons g fs ih =>
    intro rs h
    cases rs with
    | nil => rcases g with (_ | _) | _ <;> cases h
    | cons r rs =>
      rcases g with (_ | b) | x
      · rcases r with _ | b' <;> cases h
      · rcases r with _ | b'
        · cases h
        · have h : (Nat.beq b b' && shF fs rs) = true := h
          simp only [Bool.and_eq_true] at h
          obtain ⟨i1, i2⟩ := ih h.2
          have e := Nat.eq_of_beq_eq_true h.1
          subst e
          refine ⟨by simp [i1], fun k f hf => ?_⟩
          cases k with
          | zero => simp at hf; subst hf; exact Or.inl ⟨b, rfl, rfl⟩
          | succ k => exact i2 k f (by simpa using hf)
      · rcases r with _ | b'
        · obtain ⟨i1, i2⟩ := ih (show shF fs rs = true from h)
          refine ⟨by simp [i1], fun k f hf => ?_⟩
          cases k with
          | zero => simp at hf; subst hf; exact Or.inr ⟨x, rfl, rfl⟩
          | succ k => exact i2 k f (by simpa using hf)
        · cases h
theorem w1_wl {base : Nat} {cI cZ cG : ClassId} {xs : Nat → Int32} {L : Nat} : w1 base cI cZ cG hL = wl base cI cZ cG (s_0 xs L) := by
  apply List.ext_getElem?
  intro i
  by_cases hi : i < mNN
  · rw [w1_get, wl_at hi]
    have h1 : shO i = true := List.all_eq_true.mp sh_ok i (List.mem_range.mpr hi)
    have hs : s_0 xs L i = sF hL i := by
      unfold s_0
      rw [if_neg (by unfold idScr; unfold mNN at hi; omega), if_neg (by unfold idLen; unfold mNN at hi; omega)]
    cases hc : hL[i]? with
    | none => unfold shO at h1; rw [hc] at h1; cases h1
    | some c =>
      unfold shO at h1
      rw [hc] at h1
      have h1 : shC i c = true := h1
      show some (base + i, aE base cI cZ cG c) = some (base + i, ce base cI cZ cG (s_0 xs L) i)
      have key : aE base cI cZ cG c = ce base cI cZ cG (s_0 xs L) i := by
        rcases c with ⟨ci, fs⟩ | ⟨t, l⟩ | ⟨n, g⟩
        · unfold shC at h1
          dsimp only at h1
          cases ho : oK i with
          | none => rw [ho] at h1; cases h1
          | some r =>
            rw [ho] at h1
            dsimp only at h1
            simp only [Bool.and_eq_true] at h1
            have e1 := Nat.eq_of_beq_eq_true h1.1
            obtain ⟨i1, i2⟩ := shF_ok h1.2
            rw [ce_o ho]
            show (Sum.inr (ci, fs.map (av base)) : va_E) = .inr (r.1, fv base (s_0 xs L) i r.2)
            rw [e1]
            congr 2
            apply List.ext_getElem?
            intro k
            by_cases hk : k < fs.length
            · obtain ⟨f, hf⟩ : ∃ f, fs[k]? = some f := ⟨_, List.getElem?_eq_getElem hk⟩
              have hsk : s_0 xs L i k = (match fs[k]? with
                | some (.inr x) => x
                | _ => 0) := by
                rw [hs]
                unfold sF
                rw [hc]
              rw [List.getElem?_map, hf]
              rw [hf] at hsk
              rcases i2 k f hf with ⟨b, rfl, hr⟩ | ⟨x, rfl, hr⟩
              · rw [fv_at hr]; rfl
              · rw [fv_at hr]
                show some (Value.int x) = some (Value.int (s_0 xs L i k))
                rw [hsk]
            · rw [List.getElem?_eq_none (by simp; omega), List.getElem?_eq_none (by rw [fv_len]; omega)]
        · unfold shC at h1
          dsimp only at h1
          have hsk : s_0 xs L i = fun j => l.getD j 0 := by
            rw [hs]
            unfold sF
            rw [hc]
          cases ht : Nat.beq t 0 with
          | true =>
            rw [ht] at h1
            have h1 : iK i = some l.length := by simpa using h1
            rw [ce_i h1, hsk]
            show (Sum.inl (cond (Nat.beq t 0) cI cZ, l.length, .inl (fun j => l.getD j 0)) : va_E) = _
            rw [ht]
            rfl
          | false =>
            rw [ht] at h1
            have h1 : zK i = some l.length := by simpa using h1
            rw [ce_z h1, hsk]
            show (Sum.inl (cond (Nat.beq t 0) cI cZ, l.length, .inl (fun j => l.getD j 0)) : va_E) = _
            rw [ht]
            rfl
        · unfold shC at h1
          dsimp only at h1
          cases hg : gK i with
          | none => rw [hg] at h1; cases h1
          | some r =>
            rw [hg] at h1
            dsimp only at h1
            simp only [Bool.and_eq_true] at h1
            have e1 := Nat.eq_of_beq_eq_true h1.1
            have e2 := Nat.eq_of_beq_eq_true h1.2
            rw [ce_g hg, e1, e2]
            rfl
      rw [key]
  · rw [List.getElem?_eq_none (by rw [w1_len, hL_len]; omega), List.getElem?_eq_none (by unfold wl; simp; omega)]
theorem aRun_parts : ∃ h1 : aH, r1 3000 10 1 0 (argL (aMx 10) [pA 0]) [] 0 [.inl (10, aD 10)] = some h1 ∧ h1.length = 183 ∧ r1 3000 11 184 0 (argL (aMx 11) [pA 183]) [] 0 (h1 ++ [.inl (11, aD 11)]) = some hL := by
  have h := aRun_eq
  unfold aRun at h
  split at h
  next h1 e1 =>
    obtain ⟨g1, g2⟩ := ag_inv h
    rw [appK_eq] at g2
    exact ⟨h1, e1, Nat.eq_of_beq_eq_true g1, g2⟩
  next => cases h
theorem r1_met (l : Launch) {D : va_G} {base : Nat} {kv : Nat → Option Nat} {cI cZ cG : ClassId} {xs : Nat → Int32} {nS n ν : Nat} {as : List mV} {h1 h2 : aH} (hν : ν < 15) (hlen : (slL as).length ≤ aMx ν) (hne1 : 1 ≤ h1.length) (hne2 : h1.length ≤ mNN) (h3 : r1 n ν h1.length 0 (argL (aMx ν) as) [] 0 h1 = some h2) : aMt l D base kv cI cZ cG xs nS ν as h1 h2 := by
  obtain ⟨o1, o2, o3, o4, o5, o6, o7, o8, o9, o10⟩ := aI_ok ν hν
  refine Met.ofW (cc := aBy ν) (maxL := aMx ν) (ret := none) o2 rfl ?_
  intro p2 e2 s02 m2 args2 below2 meth2 c2 s12 B hml2 hv
  obtain ⟨rfl, hP2, hK2, hC2, hsz2⟩ := hv
  have hts2 := atoms_spec (ws := Cond.code (aNm ν) (aBy ν) (aMx ν) none :: wF) B.pre
  have hown2 : s02.vm.findClass (cN (aCl ν)) = some m2.cls := by
    have := findClass_of_methodNamed B.named
    rw [o4] at this
    exact this
  have hlocks2 := B.notSynchronized
  have hr2 := B.returns
  have hx2 := B.exec
  have hb2 := B.bytes
  rw [lg_entry_eq]
  exact r1_sim l n p2 e2 (aRoom ν) s02 m2 _ below2 meth2 c2 ν h1.length 0 (argL (aMx ν) as) [] 0 h1 h2 h3 ⟨hx2, hb2, hml2, hν, hown2, fun w hw => hts2 w (List.mem_cons_of_mem _ hw), hK2, hC2, hsz2, fun hin => (name_of_methodNamed B.named B.method).1.trans (o9 hin), Nat.le_refl _, Nat.le_refl _, Nat.le_refl _, Nat.le_refl _⟩ hr2 hlocks2 _ s02.heap [] 0 rfl hne1 hne2 (LR_entry as hlen) hP2 va_S.rf
section LAWS
variable {p : Program} {l : Launch} {e : Env} {R : Room} {s0 : State} {m : MethodId} {args : Array Value} {below : List Frame} {meth : Method} {c : Code} {H : Heap} {locs : List Loc} {cells slots : Nat} {Q : State → Prop} {D : va_G} {base : Nat} {kv : Nat → Option Nat} {cI cZ cG : ClassId} {xs : Nat → Int32} {nS : Nat}
/-- new, in the law -/
theorem law_new {cc : ByteArray} {pc ci cp n0 : Nat} {ls : Array Slot} {rest : List Value} (hx : p.tables.exec = Jvm.exec) (hb : c.code = cc) (hown : s0.vm.findClass (cN 18) = some m.cls) (hts : ∀ w ∈ wF, w.before args s0 = true) (hK : va_K D vwCl (tyL cI cZ cG) s0) (hs : s0.heap.size = base + n0) {h : aH} (hn0 : n0 + cells = h.length) (hP : va_P D vwCl (w1 base cI cZ cG h) H) (hS : va_S (Ab base) s0.heap H locs) (hf : lk (nwC 18) cp = some ci) (hc1 : cells + 1 ≤ R.cells) (hc2 : slots + (aD ci).length ≤ R.slots) (hd : decode cc pc = .ok (.new cp, 3))
    (kk : ∀ H1 : Heap, va_P D vwCl (w1 base cI cZ cG (h ++ [.inl (ci, aD ci)])) H1 → va_S (Ab base) s0.heap H1 locs → W p l e R s0 m args below meth c H1 locs (cells + 1) (slots + (aD ci).length) Q (F0 m (pc + 3) ls (.ref (base + h.length) :: rest))) : W p l e R s0 m args below meth c H locs cells slots Q (F0 m pc ls rest) := by
  obtain ⟨ww1, ww2, ww3, hci⟩ := nwC_ok 18 (by decide) _ (lk_mem hf)
  dsimp only at ww1 ww2 ww3 hci
  obtain ⟨⟨C, T, N⟩, hc⟩ : ∃ z, vwCl[ci]? = some z := ⟨_, List.getElem?_eq_getElem (show ci < vwCl.length from hci)⟩
  obtain ⟨eN, eC, ⟨hty, hnm⟩, eT, hul⟩ := clA_ok ci hci C T N hc
  subst eN
  subst eC
  obtain ⟨hdf1, hdf2⟩ := dfA_ok ci hci
  refine va_new (D := D) (fs := (aD ci).map (av base)) hx hb hts hul (tyA ci) hty hown (hts _ ww1) (hts _ ww2) (hts _ ww3) hK hP w1_D hS (fun q hq => by show base ≤ q; omega) hc (fun j hj => ?_) hc1 hc2 hd (fun q H1 hP1 hD1 hS1 => W_sz fun hle => ?_)
  · rw [hdf1 j hj]
    show _ = ((aD ci).map (av base)).getD j .null
    rw [List.getD_eq_getElem?_getD, List.getD_eq_getElem?_getD, List.getElem?_map, List.getElem?_eq_getElem hj]
    show avD (aD ci)[j] = av base (aD ci)[j]
    rcases hdf2 _ (List.getElem_mem hj) with hz | hz <;> rw [hz] <;> rfl
  · have eq := new_q hs hn0 hP1 hD1 hle
    subst eq
    exact kk H1 (by rw [← w1_app]; exact hP1) hS1
/-- a constructor's call, in the law -/
theorem law_init {cc : ByteArray} {pc ν cp n0 a : Nat} {ls : Array Slot} {rest : List Value} (hx : p.tables.exec = Jvm.exec) (hb : c.code = cc) (hml : c.maxLocals = 4) (hls : ls.size = 4) (hown : s0.vm.findClass (cN 18) = some m.cls) (hts : ∀ w ∈ wF, w.before args s0 = true) (hK : va_K D vwCl (tyL cI cZ cG) s0) (hC : CC base kv xs nS s0 s0.heap) (hs : s0.heap.size = base + n0) {h h2 : aH} (hn0 : n0 + cells = h.length) (hP : va_P D vwCl (w1 base cI cZ cG h) H) (hS : va_S (Ab base) s0.heap H locs) (hf : lk (alC 18) cp = some ν) (hin : aIn ν = true) (har : aAr ν = 1) (hsa : aSa ν = false) (hν4 : ¬ ν = 4) (ha : a < mNN) (h1 : 1 ≤ h.length) (hNN : h.length ≤ mNN) (hmx : 1 ≤ aMx ν)
    (hrun : r1 3000 ν h.length 0 (argL (aMx ν) [pA a]) [] 0 h = some h2) (hR : aFr ν + 1 ≤ R.frames ∧ 8 + (aMx ν + 11) + aLo ν ≤ R.locals) (hc1 : cells + aMc ν ≤ R.cells) (hc2 : slots + aMs ν ≤ R.slots) (hW8 : ((rest.map fun v => v.category).sum) ≤ 8) (hd : decode cc pc = .ok (.invokespecial cp, 3))
    (kk : ∀ (H1 : Heap) (locs1 : List Loc), va_P D vwCl (w1 base cI cZ cG h2) H1 → va_S (Ab base) s0.heap H1 locs1 → W p l e R s0 m args below meth c H1 locs1 (cells + aMc ν) (slots + aMs ν) Q (F0 m (pc + 3) ls rest)) : W p l e R s0 m args below meth c H locs cells slots Q (F0 m pc ls (.ref (base + a) :: rest)) := by
  obtain ⟨hν, hlk⟩ := alC_ok 18 (by decide) _ (lk_mem hf)
  obtain ⟨o1, o2, o3, o4, o5, o6, o7, o8, o9, o10⟩ := aI_ok ν hν
  obtain ⟨w8, w9⟩ := o8 hsa
  have hlk : Cond.methodLink (cN 18) cp (aNm ν) ∈ wF := by
    rcases hlk with hlk | ⟨-, -, e3⟩
    · exact hlk
    · exact absurd e3 hν4
  have hMet : aMt l D base kv cI cZ cG xs nS ν [pA a] h h2 := r1_met l hν hmx h1 hNN hrun
  have e9 : (parseMethodDescriptor (aNm ν).desc).map (fun d => d.parameters.length) = some 0 := by
    revert w9
    rw [har]
    cases parseMethodDescriptor (aNm ν).desc with
    | none => intro q; cases q
    | some dd =>
      intro q
      have q : dd.parameters.length + 1 = 1 := Option.some.inj q
      show some dd.parameters.length = some 0
      congr 1
      omega
  have hG : GoodIn wF (Cond.code (aNm ν) (aBy ν) (aMx ν) none :: wF) := wF_good (fun w hw => by
    rcases List.mem_cons.mp hw with rfl | hw
    · exact o1
    · exact hw)
  refine W_sz fun hle => ?_
  have hsz := h_sz hs hn0 h1 hP hle
  refine av_call (h' := h2) (a := [Value.ref (base + a)].toArray) (va_runI (As := []) (rest := rest) (n := 0) (b := base + a) (Ts := wF) (own := cN 18) (index := cp) (bytes := aBy ν) (maxL := aMx ν) ⟨hx, hb, hml, hown, hts⟩ hMet (cwI 0 hts hG rfl rfl rfl (hts _ o3) (hts _ hlk) (hts _ w8) (o9 hin) ⟨o5.1, o5.2, e9⟩ hR) ⟨aPc_blind, fun U hU hW => ?_⟩ rfl rfl hls rfl (lv_room hW8) hd ⟨hc1, hc2⟩) hS (fun q h => h) kk
  have := apre_ok (as := [pA a]) hK hC hP hS hsz hU hW
  rw [List.map_cons, show cv base kv (pA a) = .ref (base + a) from cv_lo ha] at this
  exact this
end LAWS
