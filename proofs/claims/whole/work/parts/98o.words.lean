/-! the words of the rules (gen98o.py) -/
noncomputable def rd_isWord_244 (s : mSt) : mO := EV 65 0 [some (pA 12), some (pA 244), none] [] s
noncomputable def rd_isWord_244_20 (s : mSt) (x2 : Int32) : mO := EV 65 20 [some (pA 12), some (pA 244), some (pI x2)] [] s
noncomputable def sg_length_244 (s : mSt) : mO := EV 238 0 [some (pA 244)] [] s
noncomputable def sg_charAt_244 (s : mSt) (x1 : Int32) : mO := EV 239 0 [some (pA 244), some (pI x1)] [] s
noncomputable def sg_coder_244 (s : mSt) : mO := EV 240 0 [some (pA 244)] [] s
noncomputable def sg_isLatin1_244 (s : mSt) : mO := EV 241 0 [some (pA 244)] [] s
noncomputable def sl_charAt_256 (s : mSt) (x1 : Int32) : mO := EV 243 0 [some (pA 256), some (pI x1)] [] s
set_option maxRecDepth 100000 in
set_option maxHeartbeats 4000000 in
theorem sg_coder_244_eq (s : mSt) : sg_coder_244 s = (
  rI 0 s : mO) := (EV_un 2000 240 0 [some (pA 244)] [] s).trans rfl
set_option maxRecDepth 100000 in
set_option maxHeartbeats 4000000 in
theorem sg_isLatin1_244_eq (s : mSt) : sg_isLatin1_244 s = (
  rI 1 s : mO) := (EV_un 2000 241 0 [some (pA 244)] [] s).trans rfl
set_option maxRecDepth 100000 in
set_option maxHeartbeats 4000000 in
theorem sl_charAt_256_eq (s : mSt) (x1 : Int32) : sl_charAt_256 s x1 = (
  bV (sg_checkIndex s x1 4) fun s1 =>
    gd (inb x1 4) (
      gd (narB (some .char) (((bByt 4 x1.toNatClampNeg) &&& 255).toUInt32 % 65536).toInt32) (rI (((bByt 4 x1.toNatClampNeg) &&& 255).toUInt32 % 65536).toInt32 s1)) : mO) := (EV_un 2000 243 0 [some (pA 256), some (pI x1)] [] s).trans rfl
set_option maxRecDepth 100000 in
set_option maxHeartbeats 4000000 in
theorem sg_length_244_eq (s : mSt) : sg_length_244 s = (
  bI (sg_coder_244 s) fun v1 s1 =>
    rI (4 >>> (v1 &&& 31)) s1 : mO) := (EV_un 2000 238 0 [some (pA 244)] [] s).trans rfl
set_option maxRecDepth 100000 in
set_option maxHeartbeats 4000000 in
theorem sg_charAt_244_eq (s : mSt) (x1 : Int32) : sg_charAt_244 s x1 = (
  bI (sg_isLatin1_244 s) fun v1 s1 =>
    if v1 = 0 then
      none
    else
      bI (sl_charAt_256 s1 x1) fun v2 s2 =>
        gd (narB (some .char) v2) (rI v2 s2) : mO) := (EV_un 2000 239 0 [some (pA 244), some (pI x1)] [] s).trans rfl
set_option maxRecDepth 100000 in
set_option maxHeartbeats 4000000 in
theorem rd_isWord_244_20_eq (s : mSt) (x2 : Int32) : rd_isWord_244_20 s x2 = (
  bI (sg_length_244 s) fun v1 s1 =>
    if v1 ≤ x2 then
      rI 1 s1
    else
      gd (inb ((s1 12 7) + x2) 240) (
        bI (sg_charAt_244 s1 x2) fun v2 s2 =>
          if (s1 13 (((s1 12 7) + x2)).toNatClampNeg) = v2 then
            rd_isWord_244_20 s2 (x2 + 1)
          else
            rI 0 s2) : mO) := (EV_un 2000 65 20 [some (pA 12), some (pA 244), some (pI x2)] [] s).trans rfl
set_option maxRecDepth 100000 in
set_option maxHeartbeats 4000000 in
theorem rd_isWord_244_eq (s : mSt) : rd_isWord_244 s = (
  bI (sg_length_244 s) fun v1 s1 =>
    if ((s 12 5) - (s 12 7)) = v1 then
      rd_isWord_244_20 s1 0
    else
      rI 0 s1 : mO) := (EV_un 2000 65 0 [some (pA 12), some (pA 244), none] [] s).trans rfl
noncomputable def rd_isWord_245 (s : mSt) : mO := EV 65 0 [some (pA 12), some (pA 245), none] [] s
noncomputable def rd_isWord_245_20 (s : mSt) (x2 : Int32) : mO := EV 65 20 [some (pA 12), some (pA 245), some (pI x2)] [] s
noncomputable def sg_length_245 (s : mSt) : mO := EV 238 0 [some (pA 245)] [] s
noncomputable def sg_charAt_245 (s : mSt) (x1 : Int32) : mO := EV 239 0 [some (pA 245), some (pI x1)] [] s
noncomputable def sg_coder_245 (s : mSt) : mO := EV 240 0 [some (pA 245)] [] s
noncomputable def sg_isLatin1_245 (s : mSt) : mO := EV 241 0 [some (pA 245)] [] s
noncomputable def sl_charAt_257 (s : mSt) (x1 : Int32) : mO := EV 243 0 [some (pA 257), some (pI x1)] [] s
set_option maxRecDepth 100000 in
set_option maxHeartbeats 4000000 in
theorem sg_coder_245_eq (s : mSt) : sg_coder_245 s = (
  rI 0 s : mO) := (EV_un 2000 240 0 [some (pA 245)] [] s).trans rfl
set_option maxRecDepth 100000 in
set_option maxHeartbeats 4000000 in
theorem sg_isLatin1_245_eq (s : mSt) : sg_isLatin1_245 s = (
  rI 1 s : mO) := (EV_un 2000 241 0 [some (pA 245)] [] s).trans rfl
set_option maxRecDepth 100000 in
set_option maxHeartbeats 4000000 in
theorem sl_charAt_257_eq (s : mSt) (x1 : Int32) : sl_charAt_257 s x1 = (
  bV (sg_checkIndex s x1 4) fun s1 =>
    gd (inb x1 4) (
      gd (narB (some .char) (((bByt 5 x1.toNatClampNeg) &&& 255).toUInt32 % 65536).toInt32) (rI (((bByt 5 x1.toNatClampNeg) &&& 255).toUInt32 % 65536).toInt32 s1)) : mO) := (EV_un 2000 243 0 [some (pA 257), some (pI x1)] [] s).trans rfl
set_option maxRecDepth 100000 in
set_option maxHeartbeats 4000000 in
theorem sg_length_245_eq (s : mSt) : sg_length_245 s = (
  bI (sg_coder_245 s) fun v1 s1 =>
    rI (4 >>> (v1 &&& 31)) s1 : mO) := (EV_un 2000 238 0 [some (pA 245)] [] s).trans rfl
set_option maxRecDepth 100000 in
set_option maxHeartbeats 4000000 in
theorem sg_charAt_245_eq (s : mSt) (x1 : Int32) : sg_charAt_245 s x1 = (
  bI (sg_isLatin1_245 s) fun v1 s1 =>
    if v1 = 0 then
      none
    else
      bI (sl_charAt_257 s1 x1) fun v2 s2 =>
        gd (narB (some .char) v2) (rI v2 s2) : mO) := (EV_un 2000 239 0 [some (pA 245), some (pI x1)] [] s).trans rfl
set_option maxRecDepth 100000 in
set_option maxHeartbeats 4000000 in
theorem rd_isWord_245_20_eq (s : mSt) (x2 : Int32) : rd_isWord_245_20 s x2 = (
  bI (sg_length_245 s) fun v1 s1 =>
    if v1 ≤ x2 then
      rI 1 s1
    else
      gd (inb ((s1 12 7) + x2) 240) (
        bI (sg_charAt_245 s1 x2) fun v2 s2 =>
          if (s1 13 (((s1 12 7) + x2)).toNatClampNeg) = v2 then
            rd_isWord_245_20 s2 (x2 + 1)
          else
            rI 0 s2) : mO) := (EV_un 2000 65 20 [some (pA 12), some (pA 245), some (pI x2)] [] s).trans rfl
set_option maxRecDepth 100000 in
set_option maxHeartbeats 4000000 in
theorem rd_isWord_245_eq (s : mSt) : rd_isWord_245 s = (
  bI (sg_length_245 s) fun v1 s1 =>
    if ((s 12 5) - (s 12 7)) = v1 then
      rd_isWord_245_20 s1 0
    else
      rI 0 s1 : mO) := (EV_un 2000 65 0 [some (pA 12), some (pA 245), none] [] s).trans rfl
noncomputable def rd_isWord_246 (s : mSt) : mO := EV 65 0 [some (pA 12), some (pA 246), none] [] s
noncomputable def rd_isWord_246_20 (s : mSt) (x2 : Int32) : mO := EV 65 20 [some (pA 12), some (pA 246), some (pI x2)] [] s
noncomputable def sg_length_246 (s : mSt) : mO := EV 238 0 [some (pA 246)] [] s
noncomputable def sg_charAt_246 (s : mSt) (x1 : Int32) : mO := EV 239 0 [some (pA 246), some (pI x1)] [] s
noncomputable def sg_coder_246 (s : mSt) : mO := EV 240 0 [some (pA 246)] [] s
noncomputable def sg_isLatin1_246 (s : mSt) : mO := EV 241 0 [some (pA 246)] [] s
noncomputable def sl_charAt_258 (s : mSt) (x1 : Int32) : mO := EV 243 0 [some (pA 258), some (pI x1)] [] s
set_option maxRecDepth 100000 in
set_option maxHeartbeats 4000000 in
theorem sg_coder_246_eq (s : mSt) : sg_coder_246 s = (
  rI 0 s : mO) := (EV_un 2000 240 0 [some (pA 246)] [] s).trans rfl
set_option maxRecDepth 100000 in
set_option maxHeartbeats 4000000 in
theorem sg_isLatin1_246_eq (s : mSt) : sg_isLatin1_246 s = (
  rI 1 s : mO) := (EV_un 2000 241 0 [some (pA 246)] [] s).trans rfl
set_option maxRecDepth 100000 in
set_option maxHeartbeats 4000000 in
theorem sl_charAt_258_eq (s : mSt) (x1 : Int32) : sl_charAt_258 s x1 = (
  bV (sg_checkIndex s x1 4) fun s1 =>
    gd (inb x1 4) (
      gd (narB (some .char) (((bByt 6 x1.toNatClampNeg) &&& 255).toUInt32 % 65536).toInt32) (rI (((bByt 6 x1.toNatClampNeg) &&& 255).toUInt32 % 65536).toInt32 s1)) : mO) := (EV_un 2000 243 0 [some (pA 258), some (pI x1)] [] s).trans rfl
set_option maxRecDepth 100000 in
set_option maxHeartbeats 4000000 in
theorem sg_length_246_eq (s : mSt) : sg_length_246 s = (
  bI (sg_coder_246 s) fun v1 s1 =>
    rI (4 >>> (v1 &&& 31)) s1 : mO) := (EV_un 2000 238 0 [some (pA 246)] [] s).trans rfl
set_option maxRecDepth 100000 in
set_option maxHeartbeats 4000000 in
theorem sg_charAt_246_eq (s : mSt) (x1 : Int32) : sg_charAt_246 s x1 = (
  bI (sg_isLatin1_246 s) fun v1 s1 =>
    if v1 = 0 then
      none
    else
      bI (sl_charAt_258 s1 x1) fun v2 s2 =>
        gd (narB (some .char) v2) (rI v2 s2) : mO) := (EV_un 2000 239 0 [some (pA 246), some (pI x1)] [] s).trans rfl
set_option maxRecDepth 100000 in
set_option maxHeartbeats 4000000 in
theorem rd_isWord_246_20_eq (s : mSt) (x2 : Int32) : rd_isWord_246_20 s x2 = (
  bI (sg_length_246 s) fun v1 s1 =>
    if v1 ≤ x2 then
      rI 1 s1
    else
      gd (inb ((s1 12 7) + x2) 240) (
        bI (sg_charAt_246 s1 x2) fun v2 s2 =>
          if (s1 13 (((s1 12 7) + x2)).toNatClampNeg) = v2 then
            rd_isWord_246_20 s2 (x2 + 1)
          else
            rI 0 s2) : mO) := (EV_un 2000 65 20 [some (pA 12), some (pA 246), some (pI x2)] [] s).trans rfl
set_option maxRecDepth 100000 in
set_option maxHeartbeats 4000000 in
theorem rd_isWord_246_eq (s : mSt) : rd_isWord_246 s = (
  bI (sg_length_246 s) fun v1 s1 =>
    if ((s 12 5) - (s 12 7)) = v1 then
      rd_isWord_246_20 s1 0
    else
      rI 0 s1 : mO) := (EV_un 2000 65 0 [some (pA 12), some (pA 246), none] [] s).trans rfl
noncomputable def rd_isWord_247 (s : mSt) : mO := EV 65 0 [some (pA 12), some (pA 247), none] [] s
noncomputable def rd_isWord_247_20 (s : mSt) (x2 : Int32) : mO := EV 65 20 [some (pA 12), some (pA 247), some (pI x2)] [] s
noncomputable def sg_length_247 (s : mSt) : mO := EV 238 0 [some (pA 247)] [] s
noncomputable def sg_charAt_247 (s : mSt) (x1 : Int32) : mO := EV 239 0 [some (pA 247), some (pI x1)] [] s
noncomputable def sg_coder_247 (s : mSt) : mO := EV 240 0 [some (pA 247)] [] s
noncomputable def sg_isLatin1_247 (s : mSt) : mO := EV 241 0 [some (pA 247)] [] s
noncomputable def sl_charAt_259 (s : mSt) (x1 : Int32) : mO := EV 243 0 [some (pA 259), some (pI x1)] [] s
set_option maxRecDepth 100000 in
set_option maxHeartbeats 4000000 in
theorem sg_coder_247_eq (s : mSt) : sg_coder_247 s = (
  rI 0 s : mO) := (EV_un 2000 240 0 [some (pA 247)] [] s).trans rfl
set_option maxRecDepth 100000 in
set_option maxHeartbeats 4000000 in
theorem sg_isLatin1_247_eq (s : mSt) : sg_isLatin1_247 s = (
  rI 1 s : mO) := (EV_un 2000 241 0 [some (pA 247)] [] s).trans rfl
set_option maxRecDepth 100000 in
set_option maxHeartbeats 4000000 in
theorem sl_charAt_259_eq (s : mSt) (x1 : Int32) : sl_charAt_259 s x1 = (
  bV (sg_checkIndex s x1 6) fun s1 =>
    gd (inb x1 6) (
      gd (narB (some .char) (((bByt 7 x1.toNatClampNeg) &&& 255).toUInt32 % 65536).toInt32) (rI (((bByt 7 x1.toNatClampNeg) &&& 255).toUInt32 % 65536).toInt32 s1)) : mO) := (EV_un 2000 243 0 [some (pA 259), some (pI x1)] [] s).trans rfl
set_option maxRecDepth 100000 in
set_option maxHeartbeats 4000000 in
theorem sg_length_247_eq (s : mSt) : sg_length_247 s = (
  bI (sg_coder_247 s) fun v1 s1 =>
    rI (6 >>> (v1 &&& 31)) s1 : mO) := (EV_un 2000 238 0 [some (pA 247)] [] s).trans rfl
set_option maxRecDepth 100000 in
set_option maxHeartbeats 4000000 in
theorem sg_charAt_247_eq (s : mSt) (x1 : Int32) : sg_charAt_247 s x1 = (
  bI (sg_isLatin1_247 s) fun v1 s1 =>
    if v1 = 0 then
      none
    else
      bI (sl_charAt_259 s1 x1) fun v2 s2 =>
        gd (narB (some .char) v2) (rI v2 s2) : mO) := (EV_un 2000 239 0 [some (pA 247), some (pI x1)] [] s).trans rfl
set_option maxRecDepth 100000 in
set_option maxHeartbeats 4000000 in
theorem rd_isWord_247_20_eq (s : mSt) (x2 : Int32) : rd_isWord_247_20 s x2 = (
  bI (sg_length_247 s) fun v1 s1 =>
    if v1 ≤ x2 then
      rI 1 s1
    else
      gd (inb ((s1 12 7) + x2) 240) (
        bI (sg_charAt_247 s1 x2) fun v2 s2 =>
          if (s1 13 (((s1 12 7) + x2)).toNatClampNeg) = v2 then
            rd_isWord_247_20 s2 (x2 + 1)
          else
            rI 0 s2) : mO) := (EV_un 2000 65 20 [some (pA 12), some (pA 247), some (pI x2)] [] s).trans rfl
set_option maxRecDepth 100000 in
set_option maxHeartbeats 4000000 in
theorem rd_isWord_247_eq (s : mSt) : rd_isWord_247 s = (
  bI (sg_length_247 s) fun v1 s1 =>
    if ((s 12 5) - (s 12 7)) = v1 then
      rd_isWord_247_20 s1 0
    else
      rI 0 s1 : mO) := (EV_un 2000 65 0 [some (pA 12), some (pA 247), none] [] s).trans rfl
noncomputable def rd_isWord_248 (s : mSt) : mO := EV 65 0 [some (pA 12), some (pA 248), none] [] s
noncomputable def rd_isWord_248_20 (s : mSt) (x2 : Int32) : mO := EV 65 20 [some (pA 12), some (pA 248), some (pI x2)] [] s
noncomputable def sg_length_248 (s : mSt) : mO := EV 238 0 [some (pA 248)] [] s
noncomputable def sg_charAt_248 (s : mSt) (x1 : Int32) : mO := EV 239 0 [some (pA 248), some (pI x1)] [] s
noncomputable def sg_coder_248 (s : mSt) : mO := EV 240 0 [some (pA 248)] [] s
noncomputable def sg_isLatin1_248 (s : mSt) : mO := EV 241 0 [some (pA 248)] [] s
noncomputable def sl_charAt_260 (s : mSt) (x1 : Int32) : mO := EV 243 0 [some (pA 260), some (pI x1)] [] s
set_option maxRecDepth 100000 in
set_option maxHeartbeats 4000000 in
theorem sg_coder_248_eq (s : mSt) : sg_coder_248 s = (
  rI 0 s : mO) := (EV_un 2000 240 0 [some (pA 248)] [] s).trans rfl
set_option maxRecDepth 100000 in
set_option maxHeartbeats 4000000 in
theorem sg_isLatin1_248_eq (s : mSt) : sg_isLatin1_248 s = (
  rI 1 s : mO) := (EV_un 2000 241 0 [some (pA 248)] [] s).trans rfl
set_option maxRecDepth 100000 in
set_option maxHeartbeats 4000000 in
theorem sl_charAt_260_eq (s : mSt) (x1 : Int32) : sl_charAt_260 s x1 = (
  bV (sg_checkIndex s x1 3) fun s1 =>
    gd (inb x1 3) (
      gd (narB (some .char) (((bByt 8 x1.toNatClampNeg) &&& 255).toUInt32 % 65536).toInt32) (rI (((bByt 8 x1.toNatClampNeg) &&& 255).toUInt32 % 65536).toInt32 s1)) : mO) := (EV_un 2000 243 0 [some (pA 260), some (pI x1)] [] s).trans rfl
set_option maxRecDepth 100000 in
set_option maxHeartbeats 4000000 in
theorem sg_length_248_eq (s : mSt) : sg_length_248 s = (
  bI (sg_coder_248 s) fun v1 s1 =>
    rI (3 >>> (v1 &&& 31)) s1 : mO) := (EV_un 2000 238 0 [some (pA 248)] [] s).trans rfl
set_option maxRecDepth 100000 in
set_option maxHeartbeats 4000000 in
theorem sg_charAt_248_eq (s : mSt) (x1 : Int32) : sg_charAt_248 s x1 = (
  bI (sg_isLatin1_248 s) fun v1 s1 =>
    if v1 = 0 then
      none
    else
      bI (sl_charAt_260 s1 x1) fun v2 s2 =>
        gd (narB (some .char) v2) (rI v2 s2) : mO) := (EV_un 2000 239 0 [some (pA 248), some (pI x1)] [] s).trans rfl
set_option maxRecDepth 100000 in
set_option maxHeartbeats 4000000 in
theorem rd_isWord_248_20_eq (s : mSt) (x2 : Int32) : rd_isWord_248_20 s x2 = (
  bI (sg_length_248 s) fun v1 s1 =>
    if v1 ≤ x2 then
      rI 1 s1
    else
      gd (inb ((s1 12 7) + x2) 240) (
        bI (sg_charAt_248 s1 x2) fun v2 s2 =>
          if (s1 13 (((s1 12 7) + x2)).toNatClampNeg) = v2 then
            rd_isWord_248_20 s2 (x2 + 1)
          else
            rI 0 s2) : mO) := (EV_un 2000 65 20 [some (pA 12), some (pA 248), some (pI x2)] [] s).trans rfl
set_option maxRecDepth 100000 in
set_option maxHeartbeats 4000000 in
theorem rd_isWord_248_eq (s : mSt) : rd_isWord_248 s = (
  bI (sg_length_248 s) fun v1 s1 =>
    if ((s 12 5) - (s 12 7)) = v1 then
      rd_isWord_248_20 s1 0
    else
      rI 0 s1 : mO) := (EV_un 2000 65 0 [some (pA 12), some (pA 248), none] [] s).trans rfl
noncomputable def rd_isWord_249 (s : mSt) : mO := EV 65 0 [some (pA 12), some (pA 249), none] [] s
noncomputable def rd_isWord_249_20 (s : mSt) (x2 : Int32) : mO := EV 65 20 [some (pA 12), some (pA 249), some (pI x2)] [] s
noncomputable def sg_length_249 (s : mSt) : mO := EV 238 0 [some (pA 249)] [] s
noncomputable def sg_charAt_249 (s : mSt) (x1 : Int32) : mO := EV 239 0 [some (pA 249), some (pI x1)] [] s
noncomputable def sg_coder_249 (s : mSt) : mO := EV 240 0 [some (pA 249)] [] s
noncomputable def sg_isLatin1_249 (s : mSt) : mO := EV 241 0 [some (pA 249)] [] s
noncomputable def sl_charAt_261 (s : mSt) (x1 : Int32) : mO := EV 243 0 [some (pA 261), some (pI x1)] [] s
set_option maxRecDepth 100000 in
set_option maxHeartbeats 4000000 in
theorem sg_coder_249_eq (s : mSt) : sg_coder_249 s = (
  rI 0 s : mO) := (EV_un 2000 240 0 [some (pA 249)] [] s).trans rfl
set_option maxRecDepth 100000 in
set_option maxHeartbeats 4000000 in
theorem sg_isLatin1_249_eq (s : mSt) : sg_isLatin1_249 s = (
  rI 1 s : mO) := (EV_un 2000 241 0 [some (pA 249)] [] s).trans rfl
set_option maxRecDepth 100000 in
set_option maxHeartbeats 4000000 in
theorem sl_charAt_261_eq (s : mSt) (x1 : Int32) : sl_charAt_261 s x1 = (
  bV (sg_checkIndex s x1 4) fun s1 =>
    gd (inb x1 4) (
      gd (narB (some .char) (((bByt 9 x1.toNatClampNeg) &&& 255).toUInt32 % 65536).toInt32) (rI (((bByt 9 x1.toNatClampNeg) &&& 255).toUInt32 % 65536).toInt32 s1)) : mO) := (EV_un 2000 243 0 [some (pA 261), some (pI x1)] [] s).trans rfl
set_option maxRecDepth 100000 in
set_option maxHeartbeats 4000000 in
theorem sg_length_249_eq (s : mSt) : sg_length_249 s = (
  bI (sg_coder_249 s) fun v1 s1 =>
    rI (4 >>> (v1 &&& 31)) s1 : mO) := (EV_un 2000 238 0 [some (pA 249)] [] s).trans rfl
set_option maxRecDepth 100000 in
set_option maxHeartbeats 4000000 in
theorem sg_charAt_249_eq (s : mSt) (x1 : Int32) : sg_charAt_249 s x1 = (
  bI (sg_isLatin1_249 s) fun v1 s1 =>
    if v1 = 0 then
      none
    else
      bI (sl_charAt_261 s1 x1) fun v2 s2 =>
        gd (narB (some .char) v2) (rI v2 s2) : mO) := (EV_un 2000 239 0 [some (pA 249), some (pI x1)] [] s).trans rfl
set_option maxRecDepth 100000 in
set_option maxHeartbeats 4000000 in
theorem rd_isWord_249_20_eq (s : mSt) (x2 : Int32) : rd_isWord_249_20 s x2 = (
  bI (sg_length_249 s) fun v1 s1 =>
    if v1 ≤ x2 then
      rI 1 s1
    else
      gd (inb ((s1 12 7) + x2) 240) (
        bI (sg_charAt_249 s1 x2) fun v2 s2 =>
          if (s1 13 (((s1 12 7) + x2)).toNatClampNeg) = v2 then
            rd_isWord_249_20 s2 (x2 + 1)
          else
            rI 0 s2) : mO) := (EV_un 2000 65 20 [some (pA 12), some (pA 249), some (pI x2)] [] s).trans rfl
set_option maxRecDepth 100000 in
set_option maxHeartbeats 4000000 in
theorem rd_isWord_249_eq (s : mSt) : rd_isWord_249 s = (
  bI (sg_length_249 s) fun v1 s1 =>
    if ((s 12 5) - (s 12 7)) = v1 then
      rd_isWord_249_20 s1 0
    else
      rI 0 s1 : mO) := (EV_un 2000 65 0 [some (pA 12), some (pA 249), none] [] s).trans rfl
noncomputable def rd_isWord_250 (s : mSt) : mO := EV 65 0 [some (pA 12), some (pA 250), none] [] s
noncomputable def rd_isWord_250_20 (s : mSt) (x2 : Int32) : mO := EV 65 20 [some (pA 12), some (pA 250), some (pI x2)] [] s
noncomputable def sg_length_250 (s : mSt) : mO := EV 238 0 [some (pA 250)] [] s
noncomputable def sg_charAt_250 (s : mSt) (x1 : Int32) : mO := EV 239 0 [some (pA 250), some (pI x1)] [] s
noncomputable def sg_coder_250 (s : mSt) : mO := EV 240 0 [some (pA 250)] [] s
noncomputable def sg_isLatin1_250 (s : mSt) : mO := EV 241 0 [some (pA 250)] [] s
noncomputable def sl_charAt_262 (s : mSt) (x1 : Int32) : mO := EV 243 0 [some (pA 262), some (pI x1)] [] s
set_option maxRecDepth 100000 in
set_option maxHeartbeats 4000000 in
theorem sg_coder_250_eq (s : mSt) : sg_coder_250 s = (
  rI 0 s : mO) := (EV_un 2000 240 0 [some (pA 250)] [] s).trans rfl
set_option maxRecDepth 100000 in
set_option maxHeartbeats 4000000 in
theorem sg_isLatin1_250_eq (s : mSt) : sg_isLatin1_250 s = (
  rI 1 s : mO) := (EV_un 2000 241 0 [some (pA 250)] [] s).trans rfl
set_option maxRecDepth 100000 in
set_option maxHeartbeats 4000000 in
theorem sl_charAt_262_eq (s : mSt) (x1 : Int32) : sl_charAt_262 s x1 = (
  bV (sg_checkIndex s x1 4) fun s1 =>
    gd (inb x1 4) (
      gd (narB (some .char) (((bByt 10 x1.toNatClampNeg) &&& 255).toUInt32 % 65536).toInt32) (rI (((bByt 10 x1.toNatClampNeg) &&& 255).toUInt32 % 65536).toInt32 s1)) : mO) := (EV_un 2000 243 0 [some (pA 262), some (pI x1)] [] s).trans rfl
set_option maxRecDepth 100000 in
set_option maxHeartbeats 4000000 in
theorem sg_length_250_eq (s : mSt) : sg_length_250 s = (
  bI (sg_coder_250 s) fun v1 s1 =>
    rI (4 >>> (v1 &&& 31)) s1 : mO) := (EV_un 2000 238 0 [some (pA 250)] [] s).trans rfl
set_option maxRecDepth 100000 in
set_option maxHeartbeats 4000000 in
theorem sg_charAt_250_eq (s : mSt) (x1 : Int32) : sg_charAt_250 s x1 = (
  bI (sg_isLatin1_250 s) fun v1 s1 =>
    if v1 = 0 then
      none
    else
      bI (sl_charAt_262 s1 x1) fun v2 s2 =>
        gd (narB (some .char) v2) (rI v2 s2) : mO) := (EV_un 2000 239 0 [some (pA 250), some (pI x1)] [] s).trans rfl
set_option maxRecDepth 100000 in
set_option maxHeartbeats 4000000 in
theorem rd_isWord_250_20_eq (s : mSt) (x2 : Int32) : rd_isWord_250_20 s x2 = (
  bI (sg_length_250 s) fun v1 s1 =>
    if v1 ≤ x2 then
      rI 1 s1
    else
      gd (inb ((s1 12 7) + x2) 240) (
        bI (sg_charAt_250 s1 x2) fun v2 s2 =>
          if (s1 13 (((s1 12 7) + x2)).toNatClampNeg) = v2 then
            rd_isWord_250_20 s2 (x2 + 1)
          else
            rI 0 s2) : mO) := (EV_un 2000 65 20 [some (pA 12), some (pA 250), some (pI x2)] [] s).trans rfl
set_option maxRecDepth 100000 in
set_option maxHeartbeats 4000000 in
theorem rd_isWord_250_eq (s : mSt) : rd_isWord_250 s = (
  bI (sg_length_250 s) fun v1 s1 =>
    if ((s 12 5) - (s 12 7)) = v1 then
      rd_isWord_250_20 s1 0
    else
      rI 0 s1 : mO) := (EV_un 2000 65 0 [some (pA 12), some (pA 250), none] [] s).trans rfl
noncomputable def rd_isWord_251 (s : mSt) : mO := EV 65 0 [some (pA 12), some (pA 251), none] [] s
noncomputable def rd_isWord_251_20 (s : mSt) (x2 : Int32) : mO := EV 65 20 [some (pA 12), some (pA 251), some (pI x2)] [] s
noncomputable def sg_length_251 (s : mSt) : mO := EV 238 0 [some (pA 251)] [] s
noncomputable def sg_charAt_251 (s : mSt) (x1 : Int32) : mO := EV 239 0 [some (pA 251), some (pI x1)] [] s
noncomputable def sg_coder_251 (s : mSt) : mO := EV 240 0 [some (pA 251)] [] s
noncomputable def sg_isLatin1_251 (s : mSt) : mO := EV 241 0 [some (pA 251)] [] s
noncomputable def sl_charAt_263 (s : mSt) (x1 : Int32) : mO := EV 243 0 [some (pA 263), some (pI x1)] [] s
set_option maxRecDepth 100000 in
set_option maxHeartbeats 4000000 in
theorem sg_coder_251_eq (s : mSt) : sg_coder_251 s = (
  rI 0 s : mO) := (EV_un 2000 240 0 [some (pA 251)] [] s).trans rfl
set_option maxRecDepth 100000 in
set_option maxHeartbeats 4000000 in
theorem sg_isLatin1_251_eq (s : mSt) : sg_isLatin1_251 s = (
  rI 1 s : mO) := (EV_un 2000 241 0 [some (pA 251)] [] s).trans rfl
set_option maxRecDepth 100000 in
set_option maxHeartbeats 4000000 in
theorem sl_charAt_263_eq (s : mSt) (x1 : Int32) : sl_charAt_263 s x1 = (
  bV (sg_checkIndex s x1 4) fun s1 =>
    gd (inb x1 4) (
      gd (narB (some .char) (((bByt 11 x1.toNatClampNeg) &&& 255).toUInt32 % 65536).toInt32) (rI (((bByt 11 x1.toNatClampNeg) &&& 255).toUInt32 % 65536).toInt32 s1)) : mO) := (EV_un 2000 243 0 [some (pA 263), some (pI x1)] [] s).trans rfl
set_option maxRecDepth 100000 in
set_option maxHeartbeats 4000000 in
theorem sg_length_251_eq (s : mSt) : sg_length_251 s = (
  bI (sg_coder_251 s) fun v1 s1 =>
    rI (4 >>> (v1 &&& 31)) s1 : mO) := (EV_un 2000 238 0 [some (pA 251)] [] s).trans rfl
set_option maxRecDepth 100000 in
set_option maxHeartbeats 4000000 in
theorem sg_charAt_251_eq (s : mSt) (x1 : Int32) : sg_charAt_251 s x1 = (
  bI (sg_isLatin1_251 s) fun v1 s1 =>
    if v1 = 0 then
      none
    else
      bI (sl_charAt_263 s1 x1) fun v2 s2 =>
        gd (narB (some .char) v2) (rI v2 s2) : mO) := (EV_un 2000 239 0 [some (pA 251), some (pI x1)] [] s).trans rfl
set_option maxRecDepth 100000 in
set_option maxHeartbeats 4000000 in
theorem rd_isWord_251_20_eq (s : mSt) (x2 : Int32) : rd_isWord_251_20 s x2 = (
  bI (sg_length_251 s) fun v1 s1 =>
    if v1 ≤ x2 then
      rI 1 s1
    else
      gd (inb ((s1 12 7) + x2) 240) (
        bI (sg_charAt_251 s1 x2) fun v2 s2 =>
          if (s1 13 (((s1 12 7) + x2)).toNatClampNeg) = v2 then
            rd_isWord_251_20 s2 (x2 + 1)
          else
            rI 0 s2) : mO) := (EV_un 2000 65 20 [some (pA 12), some (pA 251), some (pI x2)] [] s).trans rfl
set_option maxRecDepth 100000 in
set_option maxHeartbeats 4000000 in
theorem rd_isWord_251_eq (s : mSt) : rd_isWord_251 s = (
  bI (sg_length_251 s) fun v1 s1 =>
    if ((s 12 5) - (s 12 7)) = v1 then
      rd_isWord_251_20 s1 0
    else
      rI 0 s1 : mO) := (EV_un 2000 65 0 [some (pA 12), some (pA 251), none] [] s).trans rfl
def mtB (s : mSt) : Nat → List Int32 → Bool
  | _, [] => true
  | q, c :: l => decide (s 13 q = c) && mtB s (q + 1) l
theorem ch_240_0 (s : mSt) : sg_charAt_240 s 0 = rI 114 s := by
  rw [sg_charAt_240_eq, sg_isLatin1_240_eq, bI_rI, if_neg (by decide), sl_charAt_252_eq, sg_checkIndex_eq, pc_checkIndex_264_eq, if_neg (by decide), if_pos (by decide), bI_rI, bV_rV]
  rfl
theorem ch_240_1 (s : mSt) : sg_charAt_240 s 1 = rI 101 s := by
  rw [sg_charAt_240_eq, sg_isLatin1_240_eq, bI_rI, if_neg (by decide), sl_charAt_252_eq, sg_checkIndex_eq, pc_checkIndex_264_eq, if_neg (by decide), if_pos (by decide), bI_rI, bV_rV]
  rfl
theorem ch_240_2 (s : mSt) : sg_charAt_240 s 2 = rI 110 s := by
  rw [sg_charAt_240_eq, sg_isLatin1_240_eq, bI_rI, if_neg (by decide), sl_charAt_252_eq, sg_checkIndex_eq, pc_checkIndex_264_eq, if_neg (by decide), if_pos (by decide), bI_rI, bV_rV]
  rfl
theorem ch_240_3 (s : mSt) : sg_charAt_240 s 3 = rI 116 s := by
  rw [sg_charAt_240_eq, sg_isLatin1_240_eq, bI_rI, if_neg (by decide), sl_charAt_252_eq, sg_checkIndex_eq, pc_checkIndex_264_eq, if_neg (by decide), if_pos (by decide), bI_rI, bV_rV]
  rfl
theorem ln_240 (s : mSt) : sg_length_240 s = rI 4 s := by
  rw [sg_length_240_eq, sg_coder_240_eq, bI_rI]
  rfl
theorem ch_241_0 (s : mSt) : sg_charAt_241 s 0 = rI 102 s := by
  rw [sg_charAt_241_eq, sg_isLatin1_241_eq, bI_rI, if_neg (by decide), sl_charAt_253_eq, sg_checkIndex_eq, pc_checkIndex_264_eq, if_neg (by decide), if_pos (by decide), bI_rI, bV_rV]
  rfl
theorem ch_241_1 (s : mSt) : sg_charAt_241 s 1 = rI 114 s := by
  rw [sg_charAt_241_eq, sg_isLatin1_241_eq, bI_rI, if_neg (by decide), sl_charAt_253_eq, sg_checkIndex_eq, pc_checkIndex_264_eq, if_neg (by decide), if_pos (by decide), bI_rI, bV_rV]
  rfl
theorem ch_241_2 (s : mSt) : sg_charAt_241 s 2 = rI 111 s := by
  rw [sg_charAt_241_eq, sg_isLatin1_241_eq, bI_rI, if_neg (by decide), sl_charAt_253_eq, sg_checkIndex_eq, pc_checkIndex_264_eq, if_neg (by decide), if_pos (by decide), bI_rI, bV_rV]
  rfl
theorem ch_241_3 (s : mSt) : sg_charAt_241 s 3 = rI 109 s := by
  rw [sg_charAt_241_eq, sg_isLatin1_241_eq, bI_rI, if_neg (by decide), sl_charAt_253_eq, sg_checkIndex_eq, pc_checkIndex_264_eq, if_neg (by decide), if_pos (by decide), bI_rI, bV_rV]
  rfl
theorem ln_241 (s : mSt) : sg_length_241 s = rI 4 s := by
  rw [sg_length_241_eq, sg_coder_241_eq, bI_rI]
  rfl
theorem ch_242_0 (s : mSt) : sg_charAt_242 s 0 = rI 116 s := by
  rw [sg_charAt_242_eq, sg_isLatin1_242_eq, bI_rI, if_neg (by decide), sl_charAt_254_eq, sg_checkIndex_eq, pc_checkIndex_264_eq, if_neg (by decide), if_pos (by decide), bI_rI, bV_rV]
  rfl
theorem ch_242_1 (s : mSt) : sg_charAt_242 s 1 = rI 111 s := by
  rw [sg_charAt_242_eq, sg_isLatin1_242_eq, bI_rI, if_neg (by decide), sl_charAt_254_eq, sg_checkIndex_eq, pc_checkIndex_264_eq, if_neg (by decide), if_pos (by decide), bI_rI, bV_rV]
  rfl
theorem ln_242 (s : mSt) : sg_length_242 s = rI 2 s := by
  rw [sg_length_242_eq, sg_coder_242_eq, bI_rI]
  rfl
theorem ch_243_0 (s : mSt) : sg_charAt_243 s 0 = rI 102 s := by
  rw [sg_charAt_243_eq, sg_isLatin1_243_eq, bI_rI, if_neg (by decide), sl_charAt_255_eq, sg_checkIndex_eq, pc_checkIndex_264_eq, if_neg (by decide), if_pos (by decide), bI_rI, bV_rV]
  rfl
theorem ch_243_1 (s : mSt) : sg_charAt_243 s 1 = rI 111 s := by
  rw [sg_charAt_243_eq, sg_isLatin1_243_eq, bI_rI, if_neg (by decide), sl_charAt_255_eq, sg_checkIndex_eq, pc_checkIndex_264_eq, if_neg (by decide), if_pos (by decide), bI_rI, bV_rV]
  rfl
theorem ch_243_2 (s : mSt) : sg_charAt_243 s 2 = rI 114 s := by
  rw [sg_charAt_243_eq, sg_isLatin1_243_eq, bI_rI, if_neg (by decide), sl_charAt_255_eq, sg_checkIndex_eq, pc_checkIndex_264_eq, if_neg (by decide), if_pos (by decide), bI_rI, bV_rV]
  rfl
theorem ln_243 (s : mSt) : sg_length_243 s = rI 3 s := by
  rw [sg_length_243_eq, sg_coder_243_eq, bI_rI]
  rfl
theorem ch_244_0 (s : mSt) : sg_charAt_244 s 0 = rI 115 s := by
  rw [sg_charAt_244_eq, sg_isLatin1_244_eq, bI_rI, if_neg (by decide), sl_charAt_256_eq, sg_checkIndex_eq, pc_checkIndex_264_eq, if_neg (by decide), if_pos (by decide), bI_rI, bV_rV]
  rfl
theorem ch_244_1 (s : mSt) : sg_charAt_244 s 1 = rI 101 s := by
  rw [sg_charAt_244_eq, sg_isLatin1_244_eq, bI_rI, if_neg (by decide), sl_charAt_256_eq, sg_checkIndex_eq, pc_checkIndex_264_eq, if_neg (by decide), if_pos (by decide), bI_rI, bV_rV]
  rfl
theorem ch_244_2 (s : mSt) : sg_charAt_244 s 2 = rI 110 s := by
  rw [sg_charAt_244_eq, sg_isLatin1_244_eq, bI_rI, if_neg (by decide), sl_charAt_256_eq, sg_checkIndex_eq, pc_checkIndex_264_eq, if_neg (by decide), if_pos (by decide), bI_rI, bV_rV]
  rfl
theorem ch_244_3 (s : mSt) : sg_charAt_244 s 3 = rI 100 s := by
  rw [sg_charAt_244_eq, sg_isLatin1_244_eq, bI_rI, if_neg (by decide), sl_charAt_256_eq, sg_checkIndex_eq, pc_checkIndex_264_eq, if_neg (by decide), if_pos (by decide), bI_rI, bV_rV]
  rfl
theorem ln_244 (s : mSt) : sg_length_244 s = rI 4 s := by
  rw [sg_length_244_eq, sg_coder_244_eq, bI_rI]
  rfl
theorem ch_245_0 (s : mSt) : sg_charAt_245 s 0 = rI 110 s := by
  rw [sg_charAt_245_eq, sg_isLatin1_245_eq, bI_rI, if_neg (by decide), sl_charAt_257_eq, sg_checkIndex_eq, pc_checkIndex_264_eq, if_neg (by decide), if_pos (by decide), bI_rI, bV_rV]
  rfl
theorem ch_245_1 (s : mSt) : sg_charAt_245 s 1 = rI 101 s := by
  rw [sg_charAt_245_eq, sg_isLatin1_245_eq, bI_rI, if_neg (by decide), sl_charAt_257_eq, sg_checkIndex_eq, pc_checkIndex_264_eq, if_neg (by decide), if_pos (by decide), bI_rI, bV_rV]
  rfl
theorem ch_245_2 (s : mSt) : sg_charAt_245 s 2 = rI 101 s := by
  rw [sg_charAt_245_eq, sg_isLatin1_245_eq, bI_rI, if_neg (by decide), sl_charAt_257_eq, sg_checkIndex_eq, pc_checkIndex_264_eq, if_neg (by decide), if_pos (by decide), bI_rI, bV_rV]
  rfl
theorem ch_245_3 (s : mSt) : sg_charAt_245 s 3 = rI 100 s := by
  rw [sg_charAt_245_eq, sg_isLatin1_245_eq, bI_rI, if_neg (by decide), sl_charAt_257_eq, sg_checkIndex_eq, pc_checkIndex_264_eq, if_neg (by decide), if_pos (by decide), bI_rI, bV_rV]
  rfl
theorem ln_245 (s : mSt) : sg_length_245 s = rI 4 s := by
  rw [sg_length_245_eq, sg_coder_245_eq, bI_rI]
  rfl
theorem ch_246_0 (s : mSt) : sg_charAt_246 s 0 = rI 108 s := by
  rw [sg_charAt_246_eq, sg_isLatin1_246_eq, bI_rI, if_neg (by decide), sl_charAt_258_eq, sg_checkIndex_eq, pc_checkIndex_264_eq, if_neg (by decide), if_pos (by decide), bI_rI, bV_rV]
  rfl
theorem ch_246_1 (s : mSt) : sg_charAt_246 s 1 = rI 111 s := by
  rw [sg_charAt_246_eq, sg_isLatin1_246_eq, bI_rI, if_neg (by decide), sl_charAt_258_eq, sg_checkIndex_eq, pc_checkIndex_264_eq, if_neg (by decide), if_pos (by decide), bI_rI, bV_rV]
  rfl
theorem ch_246_2 (s : mSt) : sg_charAt_246 s 2 = rI 115 s := by
  rw [sg_charAt_246_eq, sg_isLatin1_246_eq, bI_rI, if_neg (by decide), sl_charAt_258_eq, sg_checkIndex_eq, pc_checkIndex_264_eq, if_neg (by decide), if_pos (by decide), bI_rI, bV_rV]
  rfl
theorem ch_246_3 (s : mSt) : sg_charAt_246 s 3 = rI 115 s := by
  rw [sg_charAt_246_eq, sg_isLatin1_246_eq, bI_rI, if_neg (by decide), sl_charAt_258_eq, sg_checkIndex_eq, pc_checkIndex_264_eq, if_neg (by decide), if_pos (by decide), bI_rI, bV_rV]
  rfl
theorem ln_246 (s : mSt) : sg_length_246 s = rI 4 s := by
  rw [sg_length_246_eq, sg_coder_246_eq, bI_rI]
  rfl
theorem ch_247_0 (s : mSt) : sg_charAt_247 s 0 = rI 115 s := by
  rw [sg_charAt_247_eq, sg_isLatin1_247_eq, bI_rI, if_neg (by decide), sl_charAt_259_eq, sg_checkIndex_eq, pc_checkIndex_264_eq, if_neg (by decide), if_pos (by decide), bI_rI, bV_rV]
  rfl
theorem ch_247_1 (s : mSt) : sg_charAt_247 s 1 = rI 112 s := by
  rw [sg_charAt_247_eq, sg_isLatin1_247_eq, bI_rI, if_neg (by decide), sl_charAt_259_eq, sg_checkIndex_eq, pc_checkIndex_264_eq, if_neg (by decide), if_pos (by decide), bI_rI, bV_rV]
  rfl
theorem ch_247_2 (s : mSt) : sg_charAt_247 s 2 = rI 108 s := by
  rw [sg_charAt_247_eq, sg_isLatin1_247_eq, bI_rI, if_neg (by decide), sl_charAt_259_eq, sg_checkIndex_eq, pc_checkIndex_264_eq, if_neg (by decide), if_pos (by decide), bI_rI, bV_rV]
  rfl
theorem ch_247_3 (s : mSt) : sg_charAt_247 s 3 = rI 105 s := by
  rw [sg_charAt_247_eq, sg_isLatin1_247_eq, bI_rI, if_neg (by decide), sl_charAt_259_eq, sg_checkIndex_eq, pc_checkIndex_264_eq, if_neg (by decide), if_pos (by decide), bI_rI, bV_rV]
  rfl
theorem ch_247_4 (s : mSt) : sg_charAt_247 s 4 = rI 99 s := by
  rw [sg_charAt_247_eq, sg_isLatin1_247_eq, bI_rI, if_neg (by decide), sl_charAt_259_eq, sg_checkIndex_eq, pc_checkIndex_264_eq, if_neg (by decide), if_pos (by decide), bI_rI, bV_rV]
  rfl
theorem ch_247_5 (s : mSt) : sg_charAt_247 s 5 = rI 101 s := by
  rw [sg_charAt_247_eq, sg_isLatin1_247_eq, bI_rI, if_neg (by decide), sl_charAt_259_eq, sg_checkIndex_eq, pc_checkIndex_264_eq, if_neg (by decide), if_pos (by decide), bI_rI, bV_rV]
  rfl
theorem ln_247 (s : mSt) : sg_length_247 s = rI 6 s := by
  rw [sg_length_247_eq, sg_coder_247_eq, bI_rI]
  rfl
theorem ch_248_0 (s : mSt) : sg_charAt_248 s 0 = rI 97 s := by
  rw [sg_charAt_248_eq, sg_isLatin1_248_eq, bI_rI, if_neg (by decide), sl_charAt_260_eq, sg_checkIndex_eq, pc_checkIndex_264_eq, if_neg (by decide), if_pos (by decide), bI_rI, bV_rV]
  rfl
theorem ch_248_1 (s : mSt) : sg_charAt_248 s 1 = rI 103 s := by
  rw [sg_charAt_248_eq, sg_isLatin1_248_eq, bI_rI, if_neg (by decide), sl_charAt_260_eq, sg_checkIndex_eq, pc_checkIndex_264_eq, if_neg (by decide), if_pos (by decide), bI_rI, bV_rV]
  rfl
theorem ch_248_2 (s : mSt) : sg_charAt_248 s 2 = rI 101 s := by
  rw [sg_charAt_248_eq, sg_isLatin1_248_eq, bI_rI, if_neg (by decide), sl_charAt_260_eq, sg_checkIndex_eq, pc_checkIndex_264_eq, if_neg (by decide), if_pos (by decide), bI_rI, bV_rV]
  rfl
theorem ln_248 (s : mSt) : sg_length_248 s = rI 3 s := by
  rw [sg_length_248_eq, sg_coder_248_eq, bI_rI]
  rfl
theorem ch_249_0 (s : mSt) : sg_charAt_249 s 0 = rI 114 s := by
  rw [sg_charAt_249_eq, sg_isLatin1_249_eq, bI_rI, if_neg (by decide), sl_charAt_261_eq, sg_checkIndex_eq, pc_checkIndex_264_eq, if_neg (by decide), if_pos (by decide), bI_rI, bV_rV]
  rfl
theorem ch_249_1 (s : mSt) : sg_charAt_249 s 1 = rI 111 s := by
  rw [sg_charAt_249_eq, sg_isLatin1_249_eq, bI_rI, if_neg (by decide), sl_charAt_261_eq, sg_checkIndex_eq, pc_checkIndex_264_eq, if_neg (by decide), if_pos (by decide), bI_rI, bV_rV]
  rfl
theorem ch_249_2 (s : mSt) : sg_charAt_249 s 2 = rI 111 s := by
  rw [sg_charAt_249_eq, sg_isLatin1_249_eq, bI_rI, if_neg (by decide), sl_charAt_261_eq, sg_checkIndex_eq, pc_checkIndex_264_eq, if_neg (by decide), if_pos (by decide), bI_rI, bV_rV]
  rfl
theorem ch_249_3 (s : mSt) : sg_charAt_249 s 3 = rI 109 s := by
  rw [sg_charAt_249_eq, sg_isLatin1_249_eq, bI_rI, if_neg (by decide), sl_charAt_261_eq, sg_checkIndex_eq, pc_checkIndex_264_eq, if_neg (by decide), if_pos (by decide), bI_rI, bV_rV]
  rfl
theorem ln_249 (s : mSt) : sg_length_249 s = rI 4 s := by
  rw [sg_length_249_eq, sg_coder_249_eq, bI_rI]
  rfl
theorem ch_250_0 (s : mSt) : sg_charAt_250 s 0 = rI 109 s := by
  rw [sg_charAt_250_eq, sg_isLatin1_250_eq, bI_rI, if_neg (by decide), sl_charAt_262_eq, sg_checkIndex_eq, pc_checkIndex_264_eq, if_neg (by decide), if_pos (by decide), bI_rI, bV_rV]
  rfl
theorem ch_250_1 (s : mSt) : sg_charAt_250 s 1 = rI 101 s := by
  rw [sg_charAt_250_eq, sg_isLatin1_250_eq, bI_rI, if_neg (by decide), sl_charAt_262_eq, sg_checkIndex_eq, pc_checkIndex_264_eq, if_neg (by decide), if_pos (by decide), bI_rI, bV_rV]
  rfl
theorem ch_250_2 (s : mSt) : sg_charAt_250 s 2 = rI 110 s := by
  rw [sg_charAt_250_eq, sg_isLatin1_250_eq, bI_rI, if_neg (by decide), sl_charAt_262_eq, sg_checkIndex_eq, pc_checkIndex_264_eq, if_neg (by decide), if_pos (by decide), bI_rI, bV_rV]
  rfl
theorem ch_250_3 (s : mSt) : sg_charAt_250 s 3 = rI 100 s := by
  rw [sg_charAt_250_eq, sg_isLatin1_250_eq, bI_rI, if_neg (by decide), sl_charAt_262_eq, sg_checkIndex_eq, pc_checkIndex_264_eq, if_neg (by decide), if_pos (by decide), bI_rI, bV_rV]
  rfl
theorem ln_250 (s : mSt) : sg_length_250 s = rI 4 s := by
  rw [sg_length_250_eq, sg_coder_250_eq, bI_rI]
  rfl
theorem ch_251_0 (s : mSt) : sg_charAt_251 s 0 = rI 115 s := by
  rw [sg_charAt_251_eq, sg_isLatin1_251_eq, bI_rI, if_neg (by decide), sl_charAt_263_eq, sg_checkIndex_eq, pc_checkIndex_264_eq, if_neg (by decide), if_pos (by decide), bI_rI, bV_rV]
  rfl
theorem ch_251_1 (s : mSt) : sg_charAt_251 s 1 = rI 97 s := by
  rw [sg_charAt_251_eq, sg_isLatin1_251_eq, bI_rI, if_neg (by decide), sl_charAt_263_eq, sg_checkIndex_eq, pc_checkIndex_264_eq, if_neg (by decide), if_pos (by decide), bI_rI, bV_rV]
  rfl
theorem ch_251_2 (s : mSt) : sg_charAt_251 s 2 = rI 105 s := by
  rw [sg_charAt_251_eq, sg_isLatin1_251_eq, bI_rI, if_neg (by decide), sl_charAt_263_eq, sg_checkIndex_eq, pc_checkIndex_264_eq, if_neg (by decide), if_pos (by decide), bI_rI, bV_rV]
  rfl
theorem ch_251_3 (s : mSt) : sg_charAt_251 s 3 = rI 108 s := by
  rw [sg_charAt_251_eq, sg_isLatin1_251_eq, bI_rI, if_neg (by decide), sl_charAt_263_eq, sg_checkIndex_eq, pc_checkIndex_264_eq, if_neg (by decide), if_pos (by decide), bI_rI, bV_rV]
  rfl
theorem ln_251 (s : mSt) : sg_length_251 s = rI 4 s := by
  rw [sg_length_251_eq, sg_coder_251_eq, bI_rI]
  rfl
