def ok_0 (J : Bool → Bool → Bool → HM → Mu → Prop) (a1 a2 : Int32) (hp s0 s1 : Bool) (m : HM) (k : Mu) : Prop := wX4_setTrack a1 a2 hp s0 s1 m (fun x m1 => wX5_setTrack a1 a2 k (fun y k1 => x = y ∧ J hp s0 s1 m1 k1))
set_option maxRecDepth 20000 in
theorem lc_0 {L : Nat} {xs : Nat → Int32} {Z : Option Value → am_H → Prop} {nc ns : Nat} {J : Bool → Bool → Bool → HM → Mu → Prop} {iv : Int32} {hp s0 s1 : Bool} {m : HM} {k : Mu} (hv1 : vp_in (iv + 1) L) (hv2 : vp_in (iv + 2) L) (hw : ok_0 J (xs (iv + 1).toNatClampNeg) (xs (iv + 2).toNatClampNeg) hp s0 s1 m k) (kk : ∀ hp s0 s1 m k, J hp s0 s1 m k → am_Ok mL_law (some (L, xs)) Z nc ns 681 (lwLs iv) [] (fL hp s0 s1 m k)) : am_Ok mL_law (some (L, xs)) Z (nc + 16) (ns + 12311) 132 (lwLs iv) [] (fL hp s0 s1 m k) := by
  unfold ok_0 at hw
  refine am_aload_n dL_law_132 rfl ?_
  refine am_aload_n dL_law_133 rfl ?_
  refine am_iload_n dL_law_134 rfl ?_
  refine am_iconst dL_law_135 ic_1 ?_
  refine am_iadd dL_law_136 ?_
  refine am_sld rfl dL_law_137 hv1 ?_
  refine am_aload_n dL_law_138 rfl ?_
  refine am_iload_n dL_law_139 rfl ?_
  refine am_iconst dL_law_140 ic_2 ?_
  refine am_iadd dL_law_141 ?_
  refine am_sld rfl dL_law_142 hv2 ?_
  refine am_lawHI dL_law_143 q_L_law_13 rfl (sX4_setTrack hw) rfl rfl rfl (fun x m hw => ?_)
  refine am_aload_n dL_law_146 rfl ?_
  refine am_aload_n dL_law_147 rfl ?_
  refine am_iload_n dL_law_148 rfl ?_
  refine am_iconst dL_law_149 ic_1 ?_
  refine am_iadd dL_law_150 ?_
  refine am_sld rfl dL_law_151 hv1 ?_
  refine am_aload_n dL_law_152 rfl ?_
  refine am_iload_n dL_law_153 rfl ?_
  refine am_iconst dL_law_154 ic_2 ?_
  refine am_iadd dL_law_155 ?_
  refine am_sld rfl dL_law_156 hv2 ?_
  refine am_lawMI dL_law_157 q_L_law_17 rfl (sX5_setTrack hw) rfl rfl rfl (fun y k hw => ?_)
  refine am_icmp_eq 681 dL_law_160 (by decide) (fun _ => ?_) (fun c8 => absurd hw.1 c8)
  exact kk _ _ _ _ _ hw.2
def ok_1 (J : Bool → Bool → Bool → HM → Mu → Prop) (a1 : Int32) (hp s0 s1 : Bool) (m : HM) (k : Mu) : Prop := wX4_setTableLength a1 hp s0 s1 m (fun x m1 => wX5_setTableLength a1 k (fun y k1 => x = y ∧ J hp s0 s1 m1 k1))
set_option maxRecDepth 20000 in
theorem lc_1 {L : Nat} {xs : Nat → Int32} {Z : Option Value → am_H → Prop} {nc ns : Nat} {J : Bool → Bool → Bool → HM → Mu → Prop} {iv : Int32} {hp s0 s1 : Bool} {m : HM} {k : Mu} (hv1 : vp_in (iv + 1) L) (hw : ok_1 J (xs (iv + 1).toNatClampNeg) hp s0 s1 m k) (kk : ∀ hp s0 s1 m k, J hp s0 s1 m k → am_Ok mL_law (some (L, xs)) Z nc ns 681 (lwLs iv) [] (fL hp s0 s1 m k)) : am_Ok mL_law (some (L, xs)) Z (nc + 16) (ns + 12311) 165 (lwLs iv) [] (fL hp s0 s1 m k) := by
  unfold ok_1 at hw
  refine am_aload_n dL_law_165 rfl ?_
  refine am_aload_n dL_law_166 rfl ?_
  refine am_iload_n dL_law_167 rfl ?_
  refine am_iconst dL_law_168 ic_1 ?_
  refine am_iadd dL_law_169 ?_
  refine am_sld rfl dL_law_170 hv1 ?_
  refine am_lawHI dL_law_171 q_L_law_18 rfl (sX4_setTableLength hw) rfl rfl rfl (fun x m hw => ?_)
  refine am_aload_n dL_law_174 rfl ?_
  refine am_aload_n dL_law_175 rfl ?_
  refine am_iload_n dL_law_176 rfl ?_
  refine am_iconst dL_law_177 ic_1 ?_
  refine am_iadd dL_law_178 ?_
  refine am_sld rfl dL_law_179 hv1 ?_
  refine am_lawMI dL_law_180 q_L_law_22 rfl (sX5_setTableLength hw) rfl rfl rfl (fun y k hw => ?_)
  refine am_icmp_eq 681 dL_law_183 (by decide) (fun _ => ?_) (fun c8 => absurd hw.1 c8)
  exact kk _ _ _ _ _ hw.2
def ok_2 (J : Bool → Bool → Bool → HM → Mu → Prop) (a1 a2 : Int32) (hp s0 s1 : Bool) (m : HM) (k : Mu) : Prop := wX4_addLocomotive a1 a2 hp s0 s1 m (fun x m1 => wX5_addLocomotive a1 a2 k (fun y k1 => x = y ∧ J hp s0 s1 m1 k1))
set_option maxRecDepth 20000 in
theorem lc_2 {L : Nat} {xs : Nat → Int32} {Z : Option Value → am_H → Prop} {nc ns : Nat} {J : Bool → Bool → Bool → HM → Mu → Prop} {iv : Int32} {hp s0 s1 : Bool} {m : HM} {k : Mu} (hv1 : vp_in (iv + 1) L) (hv2 : vp_in (iv + 2) L) (hw : ok_2 J (xs (iv + 1).toNatClampNeg) (xs (iv + 2).toNatClampNeg) hp s0 s1 m k) (kk : ∀ hp s0 s1 m k, J hp s0 s1 m k → am_Ok mL_law (some (L, xs)) Z nc ns 681 (lwLs iv) [] (fL hp s0 s1 m k)) : am_Ok mL_law (some (L, xs)) Z (nc + 16) (ns + 12311) 188 (lwLs iv) [] (fL hp s0 s1 m k) := by
  unfold ok_2 at hw
  refine am_aload_n dL_law_188 rfl ?_
  refine am_aload_n dL_law_189 rfl ?_
  refine am_iload_n dL_law_190 rfl ?_
  refine am_iconst dL_law_191 ic_1 ?_
  refine am_iadd dL_law_192 ?_
  refine am_sld rfl dL_law_193 hv1 ?_
  refine am_aload_n dL_law_194 rfl ?_
  refine am_iload_n dL_law_195 rfl ?_
  refine am_iconst dL_law_196 ic_2 ?_
  refine am_iadd dL_law_197 ?_
  refine am_sld rfl dL_law_198 hv2 ?_
  refine am_lawHI dL_law_199 q_L_law_23 rfl (sX4_addLocomotive hw) rfl rfl rfl (fun x m hw => ?_)
  refine am_aload_n dL_law_202 rfl ?_
  refine am_aload_n dL_law_203 rfl ?_
  refine am_iload_n dL_law_204 rfl ?_
  refine am_iconst dL_law_205 ic_1 ?_
  refine am_iadd dL_law_206 ?_
  refine am_sld rfl dL_law_207 hv1 ?_
  refine am_aload_n dL_law_208 rfl ?_
  refine am_iload_n dL_law_209 rfl ?_
  refine am_iconst dL_law_210 ic_2 ?_
  refine am_iadd dL_law_211 ?_
  refine am_sld rfl dL_law_212 hv2 ?_
  refine am_lawMI dL_law_213 q_L_law_26 rfl (sX5_addLocomotive hw) rfl rfl rfl (fun y k hw => ?_)
  refine am_icmp_eq 681 dL_law_216 (by decide) (fun _ => ?_) (fun c8 => absurd hw.1 c8)
  exact kk _ _ _ _ _ hw.2
def ok_3 (J : Bool → Bool → Bool → HM → Mu → Prop) (hp s0 s1 : Bool) (m : HM) (k : Mu) : Prop := wX4_removeLocomotive hp s0 s1 m (fun x m1 => wX5_removeLocomotive k (fun y k1 => x = y ∧ J hp s0 s1 m1 k1))
set_option maxRecDepth 20000 in
theorem lc_3 {L : Nat} {xs : Nat → Int32} {Z : Option Value → am_H → Prop} {nc ns : Nat} {J : Bool → Bool → Bool → HM → Mu → Prop} {iv : Int32} {hp s0 s1 : Bool} {m : HM} {k : Mu}  (hw : ok_3 J  hp s0 s1 m k) (kk : ∀ hp s0 s1 m k, J hp s0 s1 m k → am_Ok mL_law (some (L, xs)) Z nc ns 681 (lwLs iv) [] (fL hp s0 s1 m k)) : am_Ok mL_law (some (L, xs)) Z (nc + 16) (ns + 12311) 221 (lwLs iv) [] (fL hp s0 s1 m k) := by
  unfold ok_3 at hw
  refine am_aload_n dL_law_221 rfl ?_
  refine am_lawHI dL_law_222 q_L_law_27 rfl (sX4_removeLocomotive hw) rfl rfl rfl (fun x m hw => ?_)
  refine am_aload_n dL_law_225 rfl ?_
  refine am_lawMI dL_law_226 q_L_law_31 rfl (sX5_removeLocomotive hw) rfl rfl rfl (fun y k hw => ?_)
  refine am_icmp_eq 681 dL_law_229 (by decide) (fun _ => ?_) (fun c8 => absurd hw.1 c8)
  exact kk _ _ _ _ _ hw.2
def ok_4 (J : Bool → Bool → Bool → HM → Mu → Prop) (a1 a2 : Int32) (hp s0 s1 : Bool) (m : HM) (k : Mu) : Prop := ((a2 = 0 → wX4_setDead a1 (0 : Int32) hp s0 s1 m (fun x m1 => wX5_setDead a1 (0 : Int32) k (fun y k1 => x = y ∧ J hp s0 s1 m1 k1))) ∧ (¬ a2 = 0 → wX4_setDead a1 (1 : Int32) hp s0 s1 m (fun x m1 => wX5_setDead a1 (1 : Int32) k (fun y k1 => x = y ∧ J hp s0 s1 m1 k1))))
set_option maxRecDepth 20000 in
theorem lc_4 {L : Nat} {xs : Nat → Int32} {Z : Option Value → am_H → Prop} {nc ns : Nat} {J : Bool → Bool → Bool → HM → Mu → Prop} {iv : Int32} {hp s0 s1 : Bool} {m : HM} {k : Mu} (hv1 : vp_in (iv + 1) L) (hv2 : vp_in (iv + 2) L) (hw : ok_4 J (xs (iv + 1).toNatClampNeg) (xs (iv + 2).toNatClampNeg) hp s0 s1 m k) (kk : ∀ hp s0 s1 m k, J hp s0 s1 m k → am_Ok mL_law (some (L, xs)) Z nc ns 681 (lwLs iv) [] (fL hp s0 s1 m k)) : am_Ok mL_law (some (L, xs)) Z (nc + 16) (ns + 12311) 234 (lwLs iv) [] (fL hp s0 s1 m k) := by
  unfold ok_4 at hw
  refine am_aload_n dL_law_234 rfl ?_
  refine am_aload_n dL_law_235 rfl ?_
  refine am_iload_n dL_law_236 rfl ?_
  refine am_iconst dL_law_237 ic_1 ?_
  refine am_iadd dL_law_238 ?_
  refine am_sld rfl dL_law_239 hv1 ?_
  refine am_aload_n dL_law_240 rfl ?_
  refine am_iload_n dL_law_241 rfl ?_
  refine am_iconst dL_law_242 ic_2 ?_
  refine am_iadd dL_law_243 ?_
  refine am_sld rfl dL_law_244 hv2 ?_
  refine am_if_eq 252 dL_law_245 (by decide) (fun c9 => ?_) (fun c9 => ?_)
  · have hw := hw.1 c9
    refine am_iconst dL_law_252 ic_0 ?_
    have cb := c9
    refine am_lawHI dL_law_253 q_L_law_32 rfl (sX4_setDead hw) rfl rfl rfl (fun x m hw => ?_)
    refine am_aload_n dL_law_256 rfl ?_
    refine am_aload_n dL_law_257 rfl ?_
    refine am_iload_n dL_law_258 rfl ?_
    refine am_iconst dL_law_259 ic_1 ?_
    refine am_iadd dL_law_260 ?_
    refine am_sld rfl dL_law_261 hv1 ?_
    refine am_aload_n dL_law_262 rfl ?_
    refine am_iload_n dL_law_263 rfl ?_
    refine am_iconst dL_law_264 ic_2 ?_
    refine am_iadd dL_law_265 ?_
    refine am_sld rfl dL_law_266 hv2 ?_
    refine am_if_eq 274 dL_law_267 (by decide) (fun c9 => ?_) (fun c9 => ?_)
    · skip
      refine am_iconst dL_law_274 ic_0 ?_
      refine am_lawMI dL_law_275 q_L_law_36 rfl (sX5_setDead hw) rfl rfl rfl (fun y k hw => ?_)
      refine am_icmp_eq 681 dL_law_278 (by decide) (fun _ => ?_) (fun c8 => absurd hw.1 c8)
      exact kk _ _ _ _ _ hw.2
    · exact absurd cb c9
  · have hw := hw.2 c9
    refine am_iconst dL_law_248 ic_1 ?_
    refine am_goto 253 dL_law_249 (by decide) ?_
    have cb := c9
    refine am_lawHI dL_law_253 q_L_law_32 rfl (sX4_setDead hw) rfl rfl rfl (fun x m hw => ?_)
    refine am_aload_n dL_law_256 rfl ?_
    refine am_aload_n dL_law_257 rfl ?_
    refine am_iload_n dL_law_258 rfl ?_
    refine am_iconst dL_law_259 ic_1 ?_
    refine am_iadd dL_law_260 ?_
    refine am_sld rfl dL_law_261 hv1 ?_
    refine am_aload_n dL_law_262 rfl ?_
    refine am_iload_n dL_law_263 rfl ?_
    refine am_iconst dL_law_264 ic_2 ?_
    refine am_iadd dL_law_265 ?_
    refine am_sld rfl dL_law_266 hv2 ?_
    refine am_if_eq 274 dL_law_267 (by decide) (fun c9 => ?_) (fun c9 => ?_)
    · exact absurd c9 cb
    · skip
      refine am_iconst dL_law_270 ic_1 ?_
      refine am_goto 275 dL_law_271 (by decide) ?_
      refine am_lawMI dL_law_275 q_L_law_36 rfl (sX5_setDead hw) rfl rfl rfl (fun y k hw => ?_)
      refine am_icmp_eq 681 dL_law_278 (by decide) (fun _ => ?_) (fun c8 => absurd hw.1 c8)
      exact kk _ _ _ _ _ hw.2
def ok_5 (J : Bool → Bool → Bool → HM → Mu → Prop) (hp s0 s1 : Bool) (m : HM) (k : Mu) : Prop := wX4_locomotives hp s0 s1 m (fun x => wX5_locomotives k (fun y => x = y ∧ J hp s0 s1 m k))
set_option maxRecDepth 20000 in
theorem lc_5 {L : Nat} {xs : Nat → Int32} {Z : Option Value → am_H → Prop} {nc ns : Nat} {J : Bool → Bool → Bool → HM → Mu → Prop} {iv : Int32} {hp s0 s1 : Bool} {m : HM} {k : Mu}  (hw : ok_5 J  hp s0 s1 m k) (kk : ∀ hp s0 s1 m k, J hp s0 s1 m k → am_Ok mL_law (some (L, xs)) Z nc ns 681 (lwLs iv) [] (fL hp s0 s1 m k)) : am_Ok mL_law (some (L, xs)) Z (nc + 16) (ns + 12311) 283 (lwLs iv) [] (fL hp s0 s1 m k) := by
  unfold ok_5 at hw
  refine am_aload_n dL_law_283 rfl ?_
  refine am_lawHP dL_law_284 q_L_law_37 rfl (sX4_locomotives hw) rfl rfl rfl (fun x hw => ?_)
  refine am_aload_n dL_law_287 rfl ?_
  refine am_lawMP dL_law_288 q_L_law_40 rfl (sX5_locomotives hw) rfl rfl rfl (fun y hw => ?_)
  refine am_icmp_eq 681 dL_law_291 (by decide) (fun _ => ?_) (fun c8 => absurd hw.1 c8)
  exact kk _ _ _ _ _ hw.2
def ok_6 (J : Bool → Bool → Bool → HM → Mu → Prop) (a1 : Int32) (hp s0 s1 : Bool) (m : HM) (k : Mu) : Prop := wX4_trackLength a1 hp s0 s1 m (fun x => wX5_trackLength a1 k (fun y => x = y ∧ J hp s0 s1 m k))
set_option maxRecDepth 20000 in
theorem lc_6 {L : Nat} {xs : Nat → Int32} {Z : Option Value → am_H → Prop} {nc ns : Nat} {J : Bool → Bool → Bool → HM → Mu → Prop} {iv : Int32} {hp s0 s1 : Bool} {m : HM} {k : Mu} (hv1 : vp_in (iv + 1) L) (hw : ok_6 J (xs (iv + 1).toNatClampNeg) hp s0 s1 m k) (kk : ∀ hp s0 s1 m k, J hp s0 s1 m k → am_Ok mL_law (some (L, xs)) Z nc ns 681 (lwLs iv) [] (fL hp s0 s1 m k)) : am_Ok mL_law (some (L, xs)) Z (nc + 16) (ns + 12311) 296 (lwLs iv) [] (fL hp s0 s1 m k) := by
  unfold ok_6 at hw
  refine am_aload_n dL_law_296 rfl ?_
  refine am_aload_n dL_law_297 rfl ?_
  refine am_iload_n dL_law_298 rfl ?_
  refine am_iconst dL_law_299 ic_1 ?_
  refine am_iadd dL_law_300 ?_
  refine am_sld rfl dL_law_301 hv1 ?_
  refine am_lawHP dL_law_302 q_L_law_41 rfl (sX4_trackLength hw) rfl rfl rfl (fun x hw => ?_)
  refine am_aload_n dL_law_305 rfl ?_
  refine am_aload_n dL_law_306 rfl ?_
  refine am_iload_n dL_law_307 rfl ?_
  refine am_iconst dL_law_308 ic_1 ?_
  refine am_iadd dL_law_309 ?_
  refine am_sld rfl dL_law_310 hv1 ?_
  refine am_lawMP dL_law_311 q_L_law_44 rfl (sX5_trackLength hw) rfl rfl rfl (fun y hw => ?_)
  refine am_icmp_eq 681 dL_law_314 (by decide) (fun _ => ?_) (fun c8 => absurd hw.1 c8)
  exact kk _ _ _ _ _ hw.2
def ok_7 (J : Bool → Bool → Bool → HM → Mu → Prop) (a1 : Int32) (hp s0 s1 : Bool) (m : HM) (k : Mu) : Prop := wX4_freeLength a1 hp s0 s1 m (fun x => wX5_freeLength a1 k (fun y => x = y ∧ J hp s0 s1 m k))
set_option maxRecDepth 20000 in
theorem lc_7 {L : Nat} {xs : Nat → Int32} {Z : Option Value → am_H → Prop} {nc ns : Nat} {J : Bool → Bool → Bool → HM → Mu → Prop} {iv : Int32} {hp s0 s1 : Bool} {m : HM} {k : Mu} (hv1 : vp_in (iv + 1) L) (hw : ok_7 J (xs (iv + 1).toNatClampNeg) hp s0 s1 m k) (kk : ∀ hp s0 s1 m k, J hp s0 s1 m k → am_Ok mL_law (some (L, xs)) Z nc ns 681 (lwLs iv) [] (fL hp s0 s1 m k)) : am_Ok mL_law (some (L, xs)) Z (nc + 16) (ns + 12311) 319 (lwLs iv) [] (fL hp s0 s1 m k) := by
  unfold ok_7 at hw
  refine am_aload_n dL_law_319 rfl ?_
  refine am_aload_n dL_law_320 rfl ?_
  refine am_iload_n dL_law_321 rfl ?_
  refine am_iconst dL_law_322 ic_1 ?_
  refine am_iadd dL_law_323 ?_
  refine am_sld rfl dL_law_324 hv1 ?_
  refine am_lawHP dL_law_325 q_L_law_45 rfl (sX4_freeLength hw) rfl rfl rfl (fun x hw => ?_)
  refine am_aload_n dL_law_328 rfl ?_
  refine am_aload_n dL_law_329 rfl ?_
  refine am_iload_n dL_law_330 rfl ?_
  refine am_iconst dL_law_331 ic_1 ?_
  refine am_iadd dL_law_332 ?_
  refine am_sld rfl dL_law_333 hv1 ?_
  refine am_lawMP dL_law_334 q_L_law_48 rfl (sX5_freeLength hw) rfl rfl rfl (fun y hw => ?_)
  refine am_icmp_eq 681 dL_law_337 (by decide) (fun _ => ?_) (fun c8 => absurd hw.1 c8)
  exact kk _ _ _ _ _ hw.2
def ok_8 (J : Bool → Bool → Bool → HM → Mu → Prop) (a1 a2 : Int32) (hp s0 s1 : Bool) (m : HM) (k : Mu) : Prop := wX4_row a1 a2 hp s0 s1 m (fun x => wX5_row a1 a2 k (fun y => x = y ∧ J hp s0 s1 m k))
set_option maxRecDepth 20000 in
theorem lc_8 {L : Nat} {xs : Nat → Int32} {Z : Option Value → am_H → Prop} {nc ns : Nat} {J : Bool → Bool → Bool → HM → Mu → Prop} {iv : Int32} {hp s0 s1 : Bool} {m : HM} {k : Mu} (hv1 : vp_in (iv + 1) L) (hv2 : vp_in (iv + 2) L) (hw : ok_8 J (xs (iv + 1).toNatClampNeg) (xs (iv + 2).toNatClampNeg) hp s0 s1 m k) (kk : ∀ hp s0 s1 m k, J hp s0 s1 m k → am_Ok mL_law (some (L, xs)) Z nc ns 681 (lwLs iv) [] (fL hp s0 s1 m k)) : am_Ok mL_law (some (L, xs)) Z (nc + 16) (ns + 12311) 342 (lwLs iv) [] (fL hp s0 s1 m k) := by
  unfold ok_8 at hw
  refine am_aload_n dL_law_342 rfl ?_
  refine am_aload_n dL_law_343 rfl ?_
  refine am_iload_n dL_law_344 rfl ?_
  refine am_iconst dL_law_345 ic_1 ?_
  refine am_iadd dL_law_346 ?_
  refine am_sld rfl dL_law_347 hv1 ?_
  refine am_aload_n dL_law_348 rfl ?_
  refine am_iload_n dL_law_349 rfl ?_
  refine am_iconst dL_law_350 ic_2 ?_
  refine am_iadd dL_law_351 ?_
  refine am_sld rfl dL_law_352 hv2 ?_
  refine am_lawHP dL_law_353 q_L_law_49 rfl (sX4_row hw) rfl rfl rfl (fun x hw => ?_)
  refine am_aload_n dL_law_356 rfl ?_
  refine am_aload_n dL_law_357 rfl ?_
  refine am_iload_n dL_law_358 rfl ?_
  refine am_iconst dL_law_359 ic_1 ?_
  refine am_iadd dL_law_360 ?_
  refine am_sld rfl dL_law_361 hv1 ?_
  refine am_aload_n dL_law_362 rfl ?_
  refine am_iload_n dL_law_363 rfl ?_
  refine am_iconst dL_law_364 ic_2 ?_
  refine am_iadd dL_law_365 ?_
  refine am_sld rfl dL_law_366 hv2 ?_
  refine am_lawMP dL_law_367 q_L_law_52 rfl (sX5_row hw) rfl rfl rfl (fun y hw => ?_)
  refine am_icmp_eq 681 dL_law_370 (by decide) (fun _ => ?_) (fun c8 => absurd hw.1 c8)
  exact kk _ _ _ _ _ hw.2
def ok_9 (J : Bool → Bool → Bool → HM → Mu → Prop) (a1 : Int32) (hp s0 s1 : Bool) (m : HM) (k : Mu) : Prop := wX4_place a1 hp s0 s1 m (fun x => wX5_place a1 k (fun y => x = y ∧ J hp s0 s1 m k))
set_option maxRecDepth 20000 in
theorem lc_9 {L : Nat} {xs : Nat → Int32} {Z : Option Value → am_H → Prop} {nc ns : Nat} {J : Bool → Bool → Bool → HM → Mu → Prop} {iv : Int32} {hp s0 s1 : Bool} {m : HM} {k : Mu} (hv1 : vp_in (iv + 1) L) (hw : ok_9 J (xs (iv + 1).toNatClampNeg) hp s0 s1 m k) (kk : ∀ hp s0 s1 m k, J hp s0 s1 m k → am_Ok mL_law (some (L, xs)) Z nc ns 681 (lwLs iv) [] (fL hp s0 s1 m k)) : am_Ok mL_law (some (L, xs)) Z (nc + 16) (ns + 12311) 375 (lwLs iv) [] (fL hp s0 s1 m k) := by
  unfold ok_9 at hw
  refine am_aload_n dL_law_375 rfl ?_
  refine am_aload_n dL_law_376 rfl ?_
  refine am_iload_n dL_law_377 rfl ?_
  refine am_iconst dL_law_378 ic_1 ?_
  refine am_iadd dL_law_379 ?_
  refine am_sld rfl dL_law_380 hv1 ?_
  refine am_lawHP dL_law_381 q_L_law_53 rfl (sX4_place hw) rfl rfl rfl (fun x hw => ?_)
  refine am_aload_n dL_law_384 rfl ?_
  refine am_aload_n dL_law_385 rfl ?_
  refine am_iload_n dL_law_386 rfl ?_
  refine am_iconst dL_law_387 ic_1 ?_
  refine am_iadd dL_law_388 ?_
  refine am_sld rfl dL_law_389 hv1 ?_
  refine am_lawMP dL_law_390 q_L_law_56 rfl (sX5_place hw) rfl rfl rfl (fun y hw => ?_)
  refine am_icmp_eq 681 dL_law_393 (by decide) (fun _ => ?_) (fun c8 => absurd hw.1 c8)
  exact kk _ _ _ _ _ hw.2
def ok_10 (J : Bool → Bool → Bool → HM → Mu → Prop) (a1 : Int32) (hp s0 s1 : Bool) (m : HM) (k : Mu) : Prop := wX4_pointsTo a1 hp s0 s1 m (fun x => wX5_pointsTo a1 k (fun y => x = y ∧ J hp s0 s1 m k))
set_option maxRecDepth 20000 in
theorem lc_10 {L : Nat} {xs : Nat → Int32} {Z : Option Value → am_H → Prop} {nc ns : Nat} {J : Bool → Bool → Bool → HM → Mu → Prop} {iv : Int32} {hp s0 s1 : Bool} {m : HM} {k : Mu} (hv1 : vp_in (iv + 1) L) (hw : ok_10 J (xs (iv + 1).toNatClampNeg) hp s0 s1 m k) (kk : ∀ hp s0 s1 m k, J hp s0 s1 m k → am_Ok mL_law (some (L, xs)) Z nc ns 681 (lwLs iv) [] (fL hp s0 s1 m k)) : am_Ok mL_law (some (L, xs)) Z (nc + 16) (ns + 12311) 398 (lwLs iv) [] (fL hp s0 s1 m k) := by
  unfold ok_10 at hw
  refine am_aload_n dL_law_398 rfl ?_
  refine am_aload_n dL_law_399 rfl ?_
  refine am_iload_n dL_law_400 rfl ?_
  refine am_iconst dL_law_401 ic_1 ?_
  refine am_iadd dL_law_402 ?_
  refine am_sld rfl dL_law_403 hv1 ?_
  refine am_lawHP dL_law_404 q_L_law_57 rfl (sX4_pointsTo hw) rfl rfl rfl (fun x hw => ?_)
  refine am_aload_n dL_law_407 rfl ?_
  refine am_aload_n dL_law_408 rfl ?_
  refine am_iload_n dL_law_409 rfl ?_
  refine am_iconst dL_law_410 ic_1 ?_
  refine am_iadd dL_law_411 ?_
  refine am_sld rfl dL_law_412 hv1 ?_
  refine am_lawMP dL_law_413 q_L_law_60 rfl (sX5_pointsTo hw) rfl rfl rfl (fun y hw => ?_)
  refine am_icmp_eq 681 dL_law_416 (by decide) (fun _ => ?_) (fun c8 => absurd hw.1 c8)
  exact kk _ _ _ _ _ hw.2
def ok_11 (J : Bool → Bool → Bool → HM → Mu → Prop) (a1 : Int32) (hp s0 s1 : Bool) (m : HM) (k : Mu) : Prop := wX4_turn a1 hp s0 s1 m (fun x m1 => wX5_turn a1 k (fun y k1 => x = y ∧ J hp s0 s1 m1 k1))
set_option maxRecDepth 20000 in
theorem lc_11 {L : Nat} {xs : Nat → Int32} {Z : Option Value → am_H → Prop} {nc ns : Nat} {J : Bool → Bool → Bool → HM → Mu → Prop} {iv : Int32} {hp s0 s1 : Bool} {m : HM} {k : Mu} (hv1 : vp_in (iv + 1) L) (hw : ok_11 J (xs (iv + 1).toNatClampNeg) hp s0 s1 m k) (kk : ∀ hp s0 s1 m k, J hp s0 s1 m k → am_Ok mL_law (some (L, xs)) Z nc ns 681 (lwLs iv) [] (fL hp s0 s1 m k)) : am_Ok mL_law (some (L, xs)) Z (nc + 16) (ns + 12311) 421 (lwLs iv) [] (fL hp s0 s1 m k) := by
  unfold ok_11 at hw
  refine am_aload_n dL_law_421 rfl ?_
  refine am_aload_n dL_law_422 rfl ?_
  refine am_iload_n dL_law_423 rfl ?_
  refine am_iconst dL_law_424 ic_1 ?_
  refine am_iadd dL_law_425 ?_
  refine am_sld rfl dL_law_426 hv1 ?_
  refine am_lawHI dL_law_427 q_L_law_61 rfl (sX4_turn hw) rfl rfl rfl (fun x m hw => ?_)
  refine am_aload_n dL_law_430 rfl ?_
  refine am_aload_n dL_law_431 rfl ?_
  refine am_iload_n dL_law_432 rfl ?_
  refine am_iconst dL_law_433 ic_1 ?_
  refine am_iadd dL_law_434 ?_
  refine am_sld rfl dL_law_435 hv1 ?_
  refine am_lawMI dL_law_436 q_L_law_64 rfl (sX5_turn hw) rfl rfl rfl (fun y k hw => ?_)
  refine am_icmp_eq 681 dL_law_439 (by decide) (fun _ => ?_) (fun c8 => absurd hw.1 c8)
  exact kk _ _ _ _ _ hw.2
def ok_12 (J : Bool → Bool → Bool → HM → Mu → Prop) (a1 a2 : Int32) (hp s0 s1 : Bool) (m : HM) (k : Mu) : Prop := wX4_moveIn a1 a2 hp s0 s1 m (fun x m1 => wX5_moveIn a1 a2 k (fun y k1 => x = y ∧ J hp s0 s1 m1 k1))
set_option maxRecDepth 20000 in
theorem lc_12 {L : Nat} {xs : Nat → Int32} {Z : Option Value → am_H → Prop} {nc ns : Nat} {J : Bool → Bool → Bool → HM → Mu → Prop} {iv : Int32} {hp s0 s1 : Bool} {m : HM} {k : Mu} (hv1 : vp_in (iv + 1) L) (hv2 : vp_in (iv + 2) L) (hw : ok_12 J (xs (iv + 1).toNatClampNeg) (xs (iv + 2).toNatClampNeg) hp s0 s1 m k) (kk : ∀ hp s0 s1 m k, J hp s0 s1 m k → am_Ok mL_law (some (L, xs)) Z nc ns 681 (lwLs iv) [] (fL hp s0 s1 m k)) : am_Ok mL_law (some (L, xs)) Z (nc + 16) (ns + 12311) 444 (lwLs iv) [] (fL hp s0 s1 m k) := by
  unfold ok_12 at hw
  refine am_aload_n dL_law_444 rfl ?_
  refine am_aload_n dL_law_445 rfl ?_
  refine am_iload_n dL_law_446 rfl ?_
  refine am_iconst dL_law_447 ic_1 ?_
  refine am_iadd dL_law_448 ?_
  refine am_sld rfl dL_law_449 hv1 ?_
  refine am_aload_n dL_law_450 rfl ?_
  refine am_iload_n dL_law_451 rfl ?_
  refine am_iconst dL_law_452 ic_2 ?_
  refine am_iadd dL_law_453 ?_
  refine am_sld rfl dL_law_454 hv2 ?_
  refine am_lawHI dL_law_455 q_L_law_65 rfl (sX4_moveIn hw) rfl rfl rfl (fun x m hw => ?_)
  refine am_aload_n dL_law_458 rfl ?_
  refine am_aload_n dL_law_459 rfl ?_
  refine am_iload_n dL_law_460 rfl ?_
  refine am_iconst dL_law_461 ic_1 ?_
  refine am_iadd dL_law_462 ?_
  refine am_sld rfl dL_law_463 hv1 ?_
  refine am_aload_n dL_law_464 rfl ?_
  refine am_iload_n dL_law_465 rfl ?_
  refine am_iconst dL_law_466 ic_2 ?_
  refine am_iadd dL_law_467 ?_
  refine am_sld rfl dL_law_468 hv2 ?_
  refine am_lawMI dL_law_469 q_L_law_68 rfl (sX5_moveIn hw) rfl rfl rfl (fun y k hw => ?_)
  refine am_icmp_eq 681 dL_law_472 (by decide) (fun _ => ?_) (fun c8 => absurd hw.1 c8)
  exact kk _ _ _ _ _ hw.2
def ok_13 (J : Bool → Bool → Bool → HM → Mu → Prop) (a1 a2 : Int32) (hp s0 s1 : Bool) (m : HM) (k : Mu) : Prop := wX4_moveOut a1 a2 hp s0 s1 m (fun x m1 => wX5_moveOut a1 a2 k (fun y k1 => x = y ∧ J hp s0 s1 m1 k1))
set_option maxRecDepth 20000 in
theorem lc_13 {L : Nat} {xs : Nat → Int32} {Z : Option Value → am_H → Prop} {nc ns : Nat} {J : Bool → Bool → Bool → HM → Mu → Prop} {iv : Int32} {hp s0 s1 : Bool} {m : HM} {k : Mu} (hv1 : vp_in (iv + 1) L) (hv2 : vp_in (iv + 2) L) (hw : ok_13 J (xs (iv + 1).toNatClampNeg) (xs (iv + 2).toNatClampNeg) hp s0 s1 m k) (kk : ∀ hp s0 s1 m k, J hp s0 s1 m k → am_Ok mL_law (some (L, xs)) Z nc ns 681 (lwLs iv) [] (fL hp s0 s1 m k)) : am_Ok mL_law (some (L, xs)) Z (nc + 16) (ns + 12311) 477 (lwLs iv) [] (fL hp s0 s1 m k) := by
  unfold ok_13 at hw
  refine am_aload_n dL_law_477 rfl ?_
  refine am_aload_n dL_law_478 rfl ?_
  refine am_iload_n dL_law_479 rfl ?_
  refine am_iconst dL_law_480 ic_1 ?_
  refine am_iadd dL_law_481 ?_
  refine am_sld rfl dL_law_482 hv1 ?_
  refine am_aload_n dL_law_483 rfl ?_
  refine am_iload_n dL_law_484 rfl ?_
  refine am_iconst dL_law_485 ic_2 ?_
  refine am_iadd dL_law_486 ?_
  refine am_sld rfl dL_law_487 hv2 ?_
  refine am_lawHI dL_law_488 q_L_law_69 rfl (sX4_moveOut hw) rfl rfl rfl (fun x m hw => ?_)
  refine am_aload_n dL_law_491 rfl ?_
  refine am_aload_n dL_law_492 rfl ?_
  refine am_iload_n dL_law_493 rfl ?_
  refine am_iconst dL_law_494 ic_1 ?_
  refine am_iadd dL_law_495 ?_
  refine am_sld rfl dL_law_496 hv1 ?_
  refine am_aload_n dL_law_497 rfl ?_
  refine am_iload_n dL_law_498 rfl ?_
  refine am_iconst dL_law_499 ic_2 ?_
  refine am_iadd dL_law_500 ?_
  refine am_sld rfl dL_law_501 hv2 ?_
  refine am_lawMI dL_law_502 q_L_law_72 rfl (sX5_moveOut hw) rfl rfl rfl (fun y k hw => ?_)
  refine am_icmp_eq 681 dL_law_505 (by decide) (fun _ => ?_) (fun c8 => absurd hw.1 c8)
  exact kk _ _ _ _ _ hw.2
def ok_14 (J : Bool → Bool → Bool → HM → Mu → Prop) (hp s0 s1 : Bool) (m : HM) (k : Mu) : Prop := wX4_turnsMade hp s0 s1 m (fun x => wX5_turnsMade k (fun y => x = y ∧ J hp s0 s1 m k))
set_option maxRecDepth 20000 in
theorem lc_14 {L : Nat} {xs : Nat → Int32} {Z : Option Value → am_H → Prop} {nc ns : Nat} {J : Bool → Bool → Bool → HM → Mu → Prop} {iv : Int32} {hp s0 s1 : Bool} {m : HM} {k : Mu}  (hw : ok_14 J  hp s0 s1 m k) (kk : ∀ hp s0 s1 m k, J hp s0 s1 m k → am_Ok mL_law (some (L, xs)) Z nc ns 681 (lwLs iv) [] (fL hp s0 s1 m k)) : am_Ok mL_law (some (L, xs)) Z (nc + 16) (ns + 12311) 510 (lwLs iv) [] (fL hp s0 s1 m k) := by
  unfold ok_14 at hw
  refine am_aload_n dL_law_510 rfl ?_
  refine am_lawHP dL_law_511 q_L_law_73 rfl (sX4_turnsMade hw) rfl rfl rfl (fun x hw => ?_)
  refine am_aload_n dL_law_514 rfl ?_
  refine am_lawMP dL_law_515 q_L_law_76 rfl (sX5_turnsMade hw) rfl rfl rfl (fun y hw => ?_)
  refine am_icmp_eq 681 dL_law_518 (by decide) (fun _ => ?_) (fun c8 => absurd hw.1 c8)
  exact kk _ _ _ _ _ hw.2
def ok_15 (J : Bool → Bool → Bool → HM → Mu → Prop) (hp s0 s1 : Bool) (m : HM) (k : Mu) : Prop := wX4_undo hp s0 s1 m (fun x m1 => wX5_undo k (fun y k1 => x = y ∧ J hp s0 s1 m1 k1))
set_option maxRecDepth 20000 in
theorem lc_15 {L : Nat} {xs : Nat → Int32} {Z : Option Value → am_H → Prop} {nc ns : Nat} {J : Bool → Bool → Bool → HM → Mu → Prop} {iv : Int32} {hp s0 s1 : Bool} {m : HM} {k : Mu}  (hw : ok_15 J  hp s0 s1 m k) (kk : ∀ hp s0 s1 m k, J hp s0 s1 m k → am_Ok mL_law (some (L, xs)) Z nc ns 681 (lwLs iv) [] (fL hp s0 s1 m k)) : am_Ok mL_law (some (L, xs)) Z (nc + 16) (ns + 12311) 523 (lwLs iv) [] (fL hp s0 s1 m k) := by
  unfold ok_15 at hw
  refine am_aload_n dL_law_523 rfl ?_
  refine am_lawHI dL_law_524 q_L_law_77 rfl (sX4_undo hw) rfl rfl rfl (fun x m hw => ?_)
  refine am_aload_n dL_law_527 rfl ?_
  refine am_lawMI dL_law_528 q_L_law_80 rfl (sX5_undo hw) rfl rfl rfl (fun y k hw => ?_)
  refine am_icmp_eq 681 dL_law_531 (by decide) (fun _ => ?_) (fun c8 => absurd hw.1 c8)
  exact kk _ _ _ _ _ hw.2
def ok_16 (J : Bool → Bool → Bool → HM → Mu → Prop) (a1 : Int32) (hp s0 s1 : Bool) (m : HM) (k : Mu) : Prop := wX4_log a1 hp s0 s1 m (fun x => wX5_log a1 k (fun y => x = y ∧ J hp s0 s1 m k))
set_option maxRecDepth 20000 in
theorem lc_16 {L : Nat} {xs : Nat → Int32} {Z : Option Value → am_H → Prop} {nc ns : Nat} {J : Bool → Bool → Bool → HM → Mu → Prop} {iv : Int32} {hp s0 s1 : Bool} {m : HM} {k : Mu} (hv1 : vp_in (iv + 1) L) (hw : ok_16 J (xs (iv + 1).toNatClampNeg) hp s0 s1 m k) (kk : ∀ hp s0 s1 m k, J hp s0 s1 m k → am_Ok mL_law (some (L, xs)) Z nc ns 681 (lwLs iv) [] (fL hp s0 s1 m k)) : am_Ok mL_law (some (L, xs)) Z (nc + 16) (ns + 12311) 536 (lwLs iv) [] (fL hp s0 s1 m k) := by
  unfold ok_16 at hw
  refine am_aload_n dL_law_536 rfl ?_
  refine am_aload_n dL_law_537 rfl ?_
  refine am_iload_n dL_law_538 rfl ?_
  refine am_iconst dL_law_539 ic_1 ?_
  refine am_iadd dL_law_540 ?_
  refine am_sld rfl dL_law_541 hv1 ?_
  refine am_lawHP dL_law_542 q_L_law_81 rfl (sX4_log hw) rfl rfl rfl (fun x hw => ?_)
  refine am_aload_n dL_law_545 rfl ?_
  refine am_aload_n dL_law_546 rfl ?_
  refine am_iload_n dL_law_547 rfl ?_
  refine am_iconst dL_law_548 ic_1 ?_
  refine am_iadd dL_law_549 ?_
  refine am_sld rfl dL_law_550 hv1 ?_
  refine am_lawMP dL_law_551 q_L_law_84 rfl (sX5_log hw) rfl rfl rfl (fun y hw => ?_)
  refine am_icmp_eq 681 dL_law_554 (by decide) (fun _ => ?_) (fun c8 => absurd hw.1 c8)
  exact kk _ _ _ _ _ hw.2
def ok_17 (J : Bool → Bool → Bool → HM → Mu → Prop) (a1 a2 : Int32) (hp s0 s1 : Bool) (m : HM) (k : Mu) : Prop := wX4_fewestTurns a1 a2 hp s0 s1 m (fun x hp1 s01 s11 m1 => wX5_fewestTurns a1 a2 k (fun y k1 => x = y ∧ J hp1 s01 s11 m1 k1))
set_option maxRecDepth 20000 in
theorem lc_17 {L : Nat} {xs : Nat → Int32} {Z : Option Value → am_H → Prop} {nc ns : Nat} {J : Bool → Bool → Bool → HM → Mu → Prop} {iv : Int32} {hp s0 s1 : Bool} {m : HM} {k : Mu} (hv1 : vp_in (iv + 1) L) (hv2 : vp_in (iv + 2) L) (hw : ok_17 J (xs (iv + 1).toNatClampNeg) (xs (iv + 2).toNatClampNeg) hp s0 s1 m k) (kk : ∀ hp s0 s1 m k, J hp s0 s1 m k → am_Ok mL_law (some (L, xs)) Z nc ns 681 (lwLs iv) [] (fL hp s0 s1 m k)) : am_Ok mL_law (some (L, xs)) Z (nc + 16) (ns + 12311) 559 (lwLs iv) [] (fL hp s0 s1 m k) := by
  unfold ok_17 at hw
  refine am_aload_n dL_law_559 rfl ?_
  refine am_aload_n dL_law_560 rfl ?_
  refine am_iload_n dL_law_561 rfl ?_
  refine am_iconst dL_law_562 ic_1 ?_
  refine am_iadd dL_law_563 ?_
  refine am_sld rfl dL_law_564 hv1 ?_
  refine am_aload_n dL_law_565 rfl ?_
  refine am_iload_n dL_law_566 rfl ?_
  refine am_iconst dL_law_567 ic_2 ?_
  refine am_iadd dL_law_568 ?_
  refine am_sld rfl dL_law_569 hv2 ?_
  refine am_lawHH (by decide) dL_law_570 q_L_law_85 rfl (sX4_fewestTurns hw) rfl rfl rfl (fun x hp s0 s1 m hw => ?_)
  refine am_aload_n dL_law_573 rfl ?_
  refine am_aload_n dL_law_574 rfl ?_
  refine am_iload_n dL_law_575 rfl ?_
  refine am_iconst dL_law_576 ic_1 ?_
  refine am_iadd dL_law_577 ?_
  refine am_sld rfl dL_law_578 hv1 ?_
  refine am_aload_n dL_law_579 rfl ?_
  refine am_iload_n dL_law_580 rfl ?_
  refine am_iconst dL_law_581 ic_2 ?_
  refine am_iadd dL_law_582 ?_
  refine am_sld rfl dL_law_583 hv2 ?_
  refine am_lawMI dL_law_584 q_L_law_88 rfl (sX5_fewestTurns hw) rfl rfl rfl (fun y k hw => ?_)
  refine am_icmp_eq 681 dL_law_587 (by decide) (fun _ => ?_) (fun c8 => absurd hw.1 c8)
  exact kk _ _ _ _ _ hw.2
def ok_18 (J : Bool → Bool → Bool → HM → Mu → Prop) (a1 a2 a3 : Int32) (hp s0 s1 : Bool) (m : HM) (k : Mu) : Prop := wX4_plan a1 a2 a3 hp s0 s1 m (fun x hp1 s01 s11 m1 => wX5_plan a1 a2 a3 k (fun y k1 => x = y ∧ J hp1 s01 s11 m1 k1))
set_option maxRecDepth 20000 in
theorem lc_18 {L : Nat} {xs : Nat → Int32} {Z : Option Value → am_H → Prop} {nc ns : Nat} {J : Bool → Bool → Bool → HM → Mu → Prop} {iv : Int32} {hp s0 s1 : Bool} {m : HM} {k : Mu} (hv1 : vp_in (iv + 1) L) (hv2 : vp_in (iv + 2) L) (hv3 : vp_in (iv + 3) L) (hw : ok_18 J (xs (iv + 1).toNatClampNeg) (xs (iv + 2).toNatClampNeg) (xs (iv + 3).toNatClampNeg) hp s0 s1 m k) (kk : ∀ hp s0 s1 m k, J hp s0 s1 m k → am_Ok mL_law (some (L, xs)) Z nc ns 681 (lwLs iv) [] (fL hp s0 s1 m k)) : am_Ok mL_law (some (L, xs)) Z (nc + 16) (ns + 12311) 592 (lwLs iv) [] (fL hp s0 s1 m k) := by
  unfold ok_18 at hw
  refine am_aload_n dL_law_592 rfl ?_
  refine am_aload_n dL_law_593 rfl ?_
  refine am_iload_n dL_law_594 rfl ?_
  refine am_iconst dL_law_595 ic_1 ?_
  refine am_iadd dL_law_596 ?_
  refine am_sld rfl dL_law_597 hv1 ?_
  refine am_aload_n dL_law_598 rfl ?_
  refine am_iload_n dL_law_599 rfl ?_
  refine am_iconst dL_law_600 ic_2 ?_
  refine am_iadd dL_law_601 ?_
  refine am_sld rfl dL_law_602 hv2 ?_
  refine am_aload_n dL_law_603 rfl ?_
  refine am_iload_n dL_law_604 rfl ?_
  refine am_iconst dL_law_605 ic_3 ?_
  refine am_iadd dL_law_606 ?_
  refine am_sld rfl dL_law_607 hv3 ?_
  refine am_lawHH (by decide) dL_law_608 q_L_law_89 rfl (sX4_plan hw) rfl rfl rfl (fun x hp s0 s1 m hw => ?_)
  refine am_aload_n dL_law_611 rfl ?_
  refine am_aload_n dL_law_612 rfl ?_
  refine am_iload_n dL_law_613 rfl ?_
  refine am_iconst dL_law_614 ic_1 ?_
  refine am_iadd dL_law_615 ?_
  refine am_sld rfl dL_law_616 hv1 ?_
  refine am_aload_n dL_law_617 rfl ?_
  refine am_iload_n dL_law_618 rfl ?_
  refine am_iconst dL_law_619 ic_2 ?_
  refine am_iadd dL_law_620 ?_
  refine am_sld rfl dL_law_621 hv2 ?_
  refine am_aload_n dL_law_622 rfl ?_
  refine am_iload_n dL_law_623 rfl ?_
  refine am_iconst dL_law_624 ic_3 ?_
  refine am_iadd dL_law_625 ?_
  refine am_sld rfl dL_law_626 hv3 ?_
  refine am_lawMI dL_law_627 q_L_law_93 rfl (sX5_plan hw) rfl rfl rfl (fun y k hw => ?_)
  refine am_icmp_eq 681 dL_law_630 (by decide) (fun _ => ?_) (fun c8 => absurd hw.1 c8)
  exact kk _ _ _ _ _ hw.2
def ok_19 (J : Bool → Bool → Bool → HM → Mu → Prop) (a1 : Int32) (hp s0 s1 : Bool) (m : HM) (k : Mu) : Prop := wX4_save a1 hp s0 s1 m (fun x hp1 s01 s11 m1 => wX5_save a1 k (fun y k1 => x = y ∧ J hp1 s01 s11 m1 k1))
set_option maxRecDepth 20000 in
theorem lc_19 {L : Nat} {xs : Nat → Int32} {Z : Option Value → am_H → Prop} {nc ns : Nat} {J : Bool → Bool → Bool → HM → Mu → Prop} {iv : Int32} {hp s0 s1 : Bool} {m : HM} {k : Mu} (hv1 : vp_in (iv + 1) L) (hw : ok_19 J (xs (iv + 1).toNatClampNeg) hp s0 s1 m k) (kk : ∀ hp s0 s1 m k, J hp s0 s1 m k → am_Ok mL_law (some (L, xs)) Z nc ns 681 (lwLs iv) [] (fL hp s0 s1 m k)) : am_Ok mL_law (some (L, xs)) Z (nc + 16) (ns + 12311) 635 (lwLs iv) [] (fL hp s0 s1 m k) := by
  unfold ok_19 at hw
  refine am_aload_n dL_law_635 rfl ?_
  refine am_aload_n dL_law_636 rfl ?_
  refine am_iload_n dL_law_637 rfl ?_
  refine am_iconst dL_law_638 ic_1 ?_
  refine am_iadd dL_law_639 ?_
  refine am_sld rfl dL_law_640 hv1 ?_
  refine am_lawHH (by decide) dL_law_641 q_L_law_94 rfl (sX4_save hw) rfl rfl rfl (fun x hp s0 s1 m hw => ?_)
  refine am_aload_n dL_law_644 rfl ?_
  refine am_aload_n dL_law_645 rfl ?_
  refine am_iload_n dL_law_646 rfl ?_
  refine am_iconst dL_law_647 ic_1 ?_
  refine am_iadd dL_law_648 ?_
  refine am_sld rfl dL_law_649 hv1 ?_
  refine am_lawMI dL_law_650 q_L_law_97 rfl (sX5_save hw) rfl rfl rfl (fun y k hw => ?_)
  refine am_icmp_eq 681 dL_law_653 (by decide) (fun _ => ?_) (fun c8 => absurd hw.1 c8)
  exact kk _ _ _ _ _ hw.2
def ok_20 (J : Bool → Bool → Bool → HM → Mu → Prop) (a1 : Int32) (hp s0 s1 : Bool) (m : HM) (k : Mu) : Prop := wX4_restore a1 hp s0 s1 m (fun x m1 => wX5_restore a1 k (fun y k1 => x = y ∧ J hp s0 s1 m1 k1))
set_option maxRecDepth 20000 in
theorem lc_20 {L : Nat} {xs : Nat → Int32} {Z : Option Value → am_H → Prop} {nc ns : Nat} {J : Bool → Bool → Bool → HM → Mu → Prop} {iv : Int32} {hp s0 s1 : Bool} {m : HM} {k : Mu} (hv1 : vp_in (iv + 1) L) (hw : ok_20 J (xs (iv + 1).toNatClampNeg) hp s0 s1 m k) (kk : ∀ hp s0 s1 m k, J hp s0 s1 m k → am_Ok mL_law (some (L, xs)) Z nc ns 681 (lwLs iv) [] (fL hp s0 s1 m k)) : am_Ok mL_law (some (L, xs)) Z (nc + 16) (ns + 12311) 658 (lwLs iv) [] (fL hp s0 s1 m k) := by
  unfold ok_20 at hw
  refine am_aload_n dL_law_658 rfl ?_
  refine am_aload_n dL_law_659 rfl ?_
  refine am_iload_n dL_law_660 rfl ?_
  refine am_iconst dL_law_661 ic_1 ?_
  refine am_iadd dL_law_662 ?_
  refine am_sld rfl dL_law_663 hv1 ?_
  refine am_lawHI dL_law_664 q_L_law_98 rfl (sX4_restore hw) rfl rfl rfl (fun x m hw => ?_)
  refine am_aload_n dL_law_667 rfl ?_
  refine am_aload_n dL_law_668 rfl ?_
  refine am_iload_n dL_law_669 rfl ?_
  refine am_iconst dL_law_670 ic_1 ?_
  refine am_iadd dL_law_671 ?_
  refine am_sld rfl dL_law_672 hv1 ?_
  refine am_lawMI dL_law_673 q_L_law_101 rfl (sX5_restore hw) rfl rfl rfl (fun y k hw => ?_)
  refine am_icmp_eq 681 dL_law_676 (by decide) (fun _ => ?_) (fun c8 => absurd hw.1 c8)
  exact kk _ _ _ _ _ hw.2
