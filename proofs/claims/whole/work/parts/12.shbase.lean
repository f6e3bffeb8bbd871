/-! SHALLOW FUNCTIONS: what the methods do, over a heap of this shape; written by program (wip/whole/gen/sh.py) -/
abbrev sh_H : Type := (Nat → Nat → Nat → Int32) × (Nat → Nat → Nat → Int64) × Nat × Nat × Nat
def sh_rc (r : Nat) : Nat := ([0, 1, 2, 3, 4, 5, 6, 9, 10, 11, 12, 13, 14, 15, 20, 21, 22, 23, 24, 25, 26, 27, 28, 29, 30, 31, 32, 33, 36, 38, 39, 40, 41] : List Nat).getD r 0
def sh_pr (r : Nat) : Nat := ([14, 18, 22, 27] : List Nat).getD r 0
def sh_l13 (r : Nat) : Nat := ([18, 8, 60, 60, 60, 60, 60, 400, 32, 18, 8, 60, 60, 60, 60, 60, 400, 32, 401, 401, 120, 240, 300, 24, 120, 240, 300, 24, 120, 240, 300, 24, 12, 120, 4001, 4001, 18, 61, 30, 30, 10, 60, 2000, 2001, 2001, 2001, 8000, 12, 12, 500, 4, 500, 5, 30, 12, 56014, 4001, 401, 6, 6, 5, 5] : List Nat).getD r 0
def sh_l14 (r : Nat) : Nat := ([401, 6, 4, 61, 61, 2001, 12, 12, 61, 61] : List Nat).getD r 0
def sh_R (tx sp : Nat) : Nat → Nat → Nat → Nat := fun c i j => match c with
  | 0 => (match j with | 0 => Nat.succ (26) | 1 => Nat.succ (3) | _ => 0)
  | 1 => (match j with | 0 => Nat.succ (34) | 1 => Nat.succ (35) | 2 => Nat.succ (28) | _ => 0)
  | 2 => (match j with | 0 => Nat.succ ((9 * i + 7)) | 2 => Nat.succ ((9 * i + 8)) | _ => 0)
  | 3 => (match j with | 0 => Nat.succ (29) | 1 => Nat.succ (30) | 2 => Nat.succ (31) | 3 => Nat.succ (32) | _ => 0)
  | 4 => (match j with | 0 => Nat.succ ((sh_pr i)) | _ => 0)
  | 5 => (match j with | 0 => Nat.succ (0) | 1 => Nat.succ (1) | 2 => Nat.succ (2) | _ => 0)
  | 6 => (match j with | 2 => Nat.succ ((sh_rc i)) | _ => 0)
  | 7 => (match j with | 0 => Nat.succ (i) | 1 => Nat.succ ((4 * i + 15)) | 2 => Nat.succ ((4 * i + 16)) | 3 => Nat.succ ((4 * i + 17)) | _ => 0)
  | 8 => (match j with | 0 => Nat.succ (3) | 1 => Nat.succ (4) | 2 => Nat.succ (37) | _ => 0)
  | 9 => (match j with | 0 => Nat.succ ((7 * i + 0)) | 1 => Nat.succ ((7 * i + 1)) | 2 => Nat.succ ((7 * i + 2)) | 3 => Nat.succ ((7 * i + 3)) | 4 => Nat.succ ((7 * i + 4)) | 5 => Nat.succ ((7 * i + 5)) | 6 => Nat.succ ((7 * i + 6)) | 7 => Nat.succ (i) | _ => 0)
  | 10 => (match j with | 0 => Nat.succ (18) | 1 => Nat.succ (19) | 2 => Nat.succ (0) | _ => 0)
  | 11 => (match j with | 0 => Nat.succ (0) | 3 => (match i with | 0 => Nat.succ tx | _ => 0) | 4 => (match i with | 0 => Nat.succ sp | _ => 0) | 5 => Nat.succ (0) | 6 => Nat.succ (0) | 7 => Nat.succ (1) | 8 => Nat.succ (2) | 9 => Nat.succ (0) | 10 => Nat.succ (0) | 11 => Nat.succ (0) | 12 => Nat.succ (0) | _ => 0)
  | 12 => (match j with | 1 => Nat.succ (42) | 3 => Nat.succ (43) | 4 => Nat.succ (44) | 5 => Nat.succ (45) | 6 => Nat.succ (5) | 12 => Nat.succ (46) | 13 => Nat.succ (6) | 14 => Nat.succ (0) | 16 => Nat.succ (7) | 17 => Nat.succ (47) | 18 => Nat.succ (48) | 21 => Nat.succ (49) | 23 => Nat.succ (50) | 24 => Nat.succ (51) | 25 => Nat.succ (52) | 26 => Nat.succ (53) | 29 => Nat.succ (54) | 30 => Nat.succ (55) | 31 => Nat.succ (56) | 32 => Nat.succ (57) | 35 => Nat.succ (8) | 36 => Nat.succ (9) | 38 => Nat.succ (58) | 39 => Nat.succ (59) | 42 => Nat.succ (60) | 43 => Nat.succ (61) | _ => 0)
  | _ => 0
def sh_cnt : Nat → Nat := fun c => match c with | 0 => 1 | 1 => 1 | 2 => 2 | 3 => 1 | 4 => 4 | 5 => 1 | 6 => 33 | 7 => 3 | 8 => 1 | 9 => 2 | 10 => 1 | 11 => 1 | 12 => 1 | 13 => 62 | 14 => 10 | 15 => 1 | 16 => 1 | 17 => 1 | 18 => 2 | 19 => 2 | 20 => 1 | _ => 0
def sh_len (L : Nat) : Nat → Nat → Nat := fun c i => match c with | 13 => sh_l13 i | 14 => sh_l14 i | 15 => 2000 | 16 => 4 | 17 => L | 19 => ai_slen.getD i 0 | _ => 0
def sh_E (h : sh_H) : ai_H := (h.1, h.2.1, sh_R h.2.2.1 h.2.2.2.1, sh_cnt, sh_len h.2.2.2.2)
abbrev oI (x : Int32) : Option ai_V := some (aI x)
abbrev oL (x : Int64) : Option ai_V := some (aL x)
abbrev oR (k i : Nat) : Option ai_V := some (aR k i)
def sh_pI (h : sh_H) (c i j : Nat) (v : Int32) : sh_H := (ai_up3 h.1 c i j v, h.2)
def sh_pJ (h : sh_H) (c i j : Nat) (v : Int64) : sh_H := (h.1, ai_up3 h.2.1 c i j v, h.2.2)
def sh_pX (h : sh_H) (b : Nat) : sh_H := (h.1, h.2.1, b, h.2.2.2.1, h.2.2.2.2)
def sh_pS (h : sh_H) (b : Nat) : sh_H := (h.1, h.2.1, h.2.2.1, b, h.2.2.2.2)
def sh_us (x y : Int32) : Int32 := (x.toUInt32 >>> (y.toUInt32 &&& Int32.toUInt32 31)).toInt32
def sh_ok {α : Type} (o : Option α) (R : α → Prop) : Prop := match o with | some a => R a | none => False
def sh_let {α β : Type} (a : α) (f : α → β) : β := f a
def sh_b2 {α β γ : Type} (o : Option (α × β)) (f : α → β → Option γ) : Option γ := Option.bind o (fun q => f q.1 q.2)
theorem sh_okT {α : Type} {c : Prop} [Decidable c] {a b : Option α} {R : α → Prop} (hc : c) (H : sh_ok (if c then a else b) R) : sh_ok a R := by rw [if_pos hc] at H; exact H
theorem sh_okF {α : Type} {c : Prop} [Decidable c] {a b : Option α} {R : α → Prop} (hc : ¬ c) (H : sh_ok (if c then a else b) R) : sh_ok b R := by rw [if_neg hc] at H; exact H
theorem sh_okG {α : Type} {c : Prop} [Decidable c] {a : Option α} {R : α → Prop} (H : sh_ok (if c then a else none) R) : c := by
  by_cases h : c
  · exact h
  · rw [if_neg h] at H; exact H.elim
theorem sh_okH {α : Type} {c : Prop} [Decidable c] {a : Option α} {R : α → Prop} (H : sh_ok (if c then a else none) R) : sh_ok a R := by
  by_cases h : c
  · rw [if_pos h] at H; exact H
  · rw [if_neg h] at H; exact H.elim
theorem sh_okL {α β : Type} {a : α} {f : α → Option β} {R : β → Prop} (H : sh_ok (sh_let a f) R) : sh_ok (f a) R := H
theorem sh_okB {α β : Type} {o : Option α} {f : α → Option β} {R : β → Prop} (H : sh_ok (Option.bind o f) R) : sh_ok o (fun a => sh_ok (f a) R) := by
  cases o with
  | none => exact H
  | some a => exact H
theorem sh_E_pX (h : sh_H) (b : Nat) : ((sh_E h).1, (sh_E h).2.1, ai_up3 (sh_E h).2.2.1 11 0 3 (b + 1), (sh_E h).2.2.2) = sh_E (sh_pX h b) := by
  refine congrArg (fun z => (h.1, h.2.1, z, sh_cnt, sh_len h.2.2.2.2)) ?_
  funext c i j
  show ai_up3 (sh_R h.2.2.1 h.2.2.2.1) 11 0 3 (b + 1) c i j = sh_R b h.2.2.2.1 c i j
  unfold ai_up3
  by_cases q : c = 11 ∧ i = 0 ∧ j = 3
  · obtain ⟨rfl, rfl, rfl⟩ := q; rfl
  · rw [if_neg q]
    by_cases hc : c = 11
    · subst hc
      by_cases hj : j = 3
      · subst hj
        cases i with
        | zero => exact absurd ⟨rfl, rfl, rfl⟩ q
        | succ i => rfl
      · unfold sh_R
        split <;> first | rfl | (split <;> first | rfl | (exfalso; omega))
    · unfold sh_R
      split <;> first | rfl | (exfalso; omega)
theorem sh_E_pS (h : sh_H) (b : Nat) : ((sh_E h).1, (sh_E h).2.1, ai_up3 (sh_E h).2.2.1 11 0 4 (b + 1), (sh_E h).2.2.2) = sh_E (sh_pS h b) := by
  refine congrArg (fun z => (h.1, h.2.1, z, sh_cnt, sh_len h.2.2.2.2)) ?_
  funext c i j
  show ai_up3 (sh_R h.2.2.1 h.2.2.2.1) 11 0 4 (b + 1) c i j = sh_R h.2.2.1 b c i j
  unfold ai_up3
  by_cases q : c = 11 ∧ i = 0 ∧ j = 4
  · obtain ⟨rfl, rfl, rfl⟩ := q; rfl
  · rw [if_neg q]
    by_cases hc : c = 11
    · subst hc
      by_cases hj : j = 4
      · subst hj
        cases i with
        | zero => exact absurd ⟨rfl, rfl, rfl⟩ q
        | succ i => rfl
      · unfold sh_R
        split <;> first | rfl | (split <;> first | rfl | (exfalso; omega))
    · unfold sh_R
      split <;> first | rfl | (exfalso; omega)
def sh_TC : Nat → Nat → Option ai_Op := fun m => (cond (Nat.blt m 179) (cond (Nat.blt m 89) (cond (Nat.blt m 44) (cond (Nat.blt m 22) (cond (Nat.blt m 11) (cond (Nat.blt m 5) (cond (Nat.blt m 2) (cond (Nat.blt m 1) cd_0 cd_1) (cond (Nat.blt m 3) cd_2 (cond (Nat.blt m 4) cd_3 cd_4))) (cond (Nat.blt m 8) (cond (Nat.blt m 6) cd_5 (cond (Nat.blt m 7) cd_6 cd_7)) (cond (Nat.blt m 9) cd_8 (cond (Nat.blt m 10) cd_9 cd_10)))) (cond (Nat.blt m 16) (cond (Nat.blt m 13) (cond (Nat.blt m 12) cd_11 cd_12) (cond (Nat.blt m 14) cd_13 (cond (Nat.blt m 15) cd_14 cd_15))) (cond (Nat.blt m 19) (cond (Nat.blt m 17) cd_16 (cond (Nat.blt m 18) cd_17 cd_18)) (cond (Nat.blt m 20) cd_19 (cond (Nat.blt m 21) cd_20 cd_21))))) (cond (Nat.blt m 33) (cond (Nat.blt m 27) (cond (Nat.blt m 24) (cond (Nat.blt m 23) cd_22 cd_23) (cond (Nat.blt m 25) cd_24 (cond (Nat.blt m 26) cd_25 cd_26))) (cond (Nat.blt m 30) (cond (Nat.blt m 28) cd_27 (cond (Nat.blt m 29) cd_28 cd_29)) (cond (Nat.blt m 31) cd_30 (cond (Nat.blt m 32) cd_31 cd_32)))) (cond (Nat.blt m 38) (cond (Nat.blt m 35) (cond (Nat.blt m 34) cd_33 cd_34) (cond (Nat.blt m 36) cd_35 (cond (Nat.blt m 37) cd_36 cd_37))) (cond (Nat.blt m 41) (cond (Nat.blt m 39) cd_38 (cond (Nat.blt m 40) cd_39 cd_40)) (cond (Nat.blt m 42) cd_41 (cond (Nat.blt m 43) cd_42 cd_43)))))) (cond (Nat.blt m 66) (cond (Nat.blt m 55) (cond (Nat.blt m 49) (cond (Nat.blt m 46) (cond (Nat.blt m 45) cd_44 cd_45) (cond (Nat.blt m 47) cd_46 (cond (Nat.blt m 48) cd_47 cd_48))) (cond (Nat.blt m 52) (cond (Nat.blt m 50) cd_49 (cond (Nat.blt m 51) cd_50 cd_51)) (cond (Nat.blt m 53) cd_52 (cond (Nat.blt m 54) cd_53 cd_54)))) (cond (Nat.blt m 60) (cond (Nat.blt m 57) (cond (Nat.blt m 56) cd_55 cd_56) (cond (Nat.blt m 58) cd_57 (cond (Nat.blt m 59) cd_58 cd_59))) (cond (Nat.blt m 63) (cond (Nat.blt m 61) cd_60 (cond (Nat.blt m 62) cd_61 cd_62)) (cond (Nat.blt m 64) cd_63 (cond (Nat.blt m 65) cd_64 cd_65))))) (cond (Nat.blt m 77) (cond (Nat.blt m 71) (cond (Nat.blt m 68) (cond (Nat.blt m 67) cd_66 cd_67) (cond (Nat.blt m 69) cd_68 (cond (Nat.blt m 70) cd_69 cd_70))) (cond (Nat.blt m 74) (cond (Nat.blt m 72) cd_71 (cond (Nat.blt m 73) cd_72 cd_73)) (cond (Nat.blt m 75) cd_74 (cond (Nat.blt m 76) cd_75 cd_76)))) (cond (Nat.blt m 83) (cond (Nat.blt m 80) (cond (Nat.blt m 78) cd_77 (cond (Nat.blt m 79) cd_78 cd_79)) (cond (Nat.blt m 81) cd_80 (cond (Nat.blt m 82) cd_81 cd_82))) (cond (Nat.blt m 86) (cond (Nat.blt m 84) cd_83 (cond (Nat.blt m 85) cd_84 cd_85)) (cond (Nat.blt m 87) cd_86 (cond (Nat.blt m 88) cd_87 cd_88))))))) (cond (Nat.blt m 134) (cond (Nat.blt m 111) (cond (Nat.blt m 100) (cond (Nat.blt m 94) (cond (Nat.blt m 91) (cond (Nat.blt m 90) cd_89 cd_90) (cond (Nat.blt m 92) cd_91 (cond (Nat.blt m 93) cd_92 cd_93))) (cond (Nat.blt m 97) (cond (Nat.blt m 95) cd_94 (cond (Nat.blt m 96) cd_95 cd_96)) (cond (Nat.blt m 98) cd_97 (cond (Nat.blt m 99) cd_98 cd_99)))) (cond (Nat.blt m 105) (cond (Nat.blt m 102) (cond (Nat.blt m 101) cd_100 cd_101) (cond (Nat.blt m 103) cd_102 (cond (Nat.blt m 104) cd_103 cd_104))) (cond (Nat.blt m 108) (cond (Nat.blt m 106) cd_105 (cond (Nat.blt m 107) cd_106 cd_107)) (cond (Nat.blt m 109) cd_108 (cond (Nat.blt m 110) cd_109 cd_110))))) (cond (Nat.blt m 122) (cond (Nat.blt m 116) (cond (Nat.blt m 113) (cond (Nat.blt m 112) cd_111 cd_112) (cond (Nat.blt m 114) cd_113 (cond (Nat.blt m 115) cd_114 cd_115))) (cond (Nat.blt m 119) (cond (Nat.blt m 117) cd_116 (cond (Nat.blt m 118) cd_117 cd_118)) (cond (Nat.blt m 120) cd_119 (cond (Nat.blt m 121) cd_120 cd_121)))) (cond (Nat.blt m 128) (cond (Nat.blt m 125) (cond (Nat.blt m 123) cd_122 (cond (Nat.blt m 124) cd_123 cd_124)) (cond (Nat.blt m 126) cd_125 (cond (Nat.blt m 127) cd_126 cd_127))) (cond (Nat.blt m 131) (cond (Nat.blt m 129) cd_128 (cond (Nat.blt m 130) cd_129 cd_130)) (cond (Nat.blt m 132) cd_131 (cond (Nat.blt m 133) cd_132 cd_133)))))) (cond (Nat.blt m 156) (cond (Nat.blt m 145) (cond (Nat.blt m 139) (cond (Nat.blt m 136) (cond (Nat.blt m 135) cd_134 cd_135) (cond (Nat.blt m 137) cd_136 (cond (Nat.blt m 138) cd_137 cd_138))) (cond (Nat.blt m 142) (cond (Nat.blt m 140) cd_139 (cond (Nat.blt m 141) cd_140 cd_141)) (cond (Nat.blt m 143) cd_142 (cond (Nat.blt m 144) cd_143 cd_144)))) (cond (Nat.blt m 150) (cond (Nat.blt m 147) (cond (Nat.blt m 146) cd_145 cd_146) (cond (Nat.blt m 148) cd_147 (cond (Nat.blt m 149) cd_148 cd_149))) (cond (Nat.blt m 153) (cond (Nat.blt m 151) cd_150 (cond (Nat.blt m 152) cd_151 cd_152)) (cond (Nat.blt m 154) cd_153 (cond (Nat.blt m 155) cd_154 cd_155))))) (cond (Nat.blt m 167) (cond (Nat.blt m 161) (cond (Nat.blt m 158) (cond (Nat.blt m 157) cd_156 cd_157) (cond (Nat.blt m 159) cd_158 (cond (Nat.blt m 160) cd_159 cd_160))) (cond (Nat.blt m 164) (cond (Nat.blt m 162) cd_161 (cond (Nat.blt m 163) cd_162 cd_163)) (cond (Nat.blt m 165) cd_164 (cond (Nat.blt m 166) cd_165 cd_166)))) (cond (Nat.blt m 173) (cond (Nat.blt m 170) (cond (Nat.blt m 168) cd_167 (cond (Nat.blt m 169) cd_168 cd_169)) (cond (Nat.blt m 171) cd_170 (cond (Nat.blt m 172) cd_171 cd_172))) (cond (Nat.blt m 176) (cond (Nat.blt m 174) cd_173 (cond (Nat.blt m 175) cd_174 cd_175)) (cond (Nat.blt m 177) cd_176 (cond (Nat.blt m 178) cd_177 cd_178)))))))) (cond (Nat.blt m 269) (cond (Nat.blt m 224) (cond (Nat.blt m 201) (cond (Nat.blt m 190) (cond (Nat.blt m 184) (cond (Nat.blt m 181) (cond (Nat.blt m 180) cd_179 cd_180) (cond (Nat.blt m 182) cd_181 (cond (Nat.blt m 183) cd_182 cd_183))) (cond (Nat.blt m 187) (cond (Nat.blt m 185) cd_184 (cond (Nat.blt m 186) cd_185 cd_186)) (cond (Nat.blt m 188) cd_187 (cond (Nat.blt m 189) cd_188 cd_189)))) (cond (Nat.blt m 195) (cond (Nat.blt m 192) (cond (Nat.blt m 191) cd_190 cd_191) (cond (Nat.blt m 193) cd_192 (cond (Nat.blt m 194) cd_193 cd_194))) (cond (Nat.blt m 198) (cond (Nat.blt m 196) cd_195 (cond (Nat.blt m 197) cd_196 cd_197)) (cond (Nat.blt m 199) cd_198 (cond (Nat.blt m 200) cd_199 cd_200))))) (cond (Nat.blt m 212) (cond (Nat.blt m 206) (cond (Nat.blt m 203) (cond (Nat.blt m 202) cd_201 cd_202) (cond (Nat.blt m 204) cd_203 (cond (Nat.blt m 205) cd_204 cd_205))) (cond (Nat.blt m 209) (cond (Nat.blt m 207) cd_206 (cond (Nat.blt m 208) cd_207 cd_208)) (cond (Nat.blt m 210) cd_209 (cond (Nat.blt m 211) cd_210 cd_211)))) (cond (Nat.blt m 218) (cond (Nat.blt m 215) (cond (Nat.blt m 213) cd_212 (cond (Nat.blt m 214) cd_213 cd_214)) (cond (Nat.blt m 216) cd_215 (cond (Nat.blt m 217) cd_216 cd_217))) (cond (Nat.blt m 221) (cond (Nat.blt m 219) cd_218 (cond (Nat.blt m 220) cd_219 cd_220)) (cond (Nat.blt m 222) cd_221 (cond (Nat.blt m 223) cd_222 cd_223)))))) (cond (Nat.blt m 246) (cond (Nat.blt m 235) (cond (Nat.blt m 229) (cond (Nat.blt m 226) (cond (Nat.blt m 225) cd_224 cd_225) (cond (Nat.blt m 227) cd_226 (cond (Nat.blt m 228) cd_227 cd_228))) (cond (Nat.blt m 232) (cond (Nat.blt m 230) cd_229 (cond (Nat.blt m 231) cd_230 cd_231)) (cond (Nat.blt m 233) cd_232 (cond (Nat.blt m 234) cd_233 cd_234)))) (cond (Nat.blt m 240) (cond (Nat.blt m 237) (cond (Nat.blt m 236) cd_235 cd_236) (cond (Nat.blt m 238) cd_237 (cond (Nat.blt m 239) cd_238 cd_239))) (cond (Nat.blt m 243) (cond (Nat.blt m 241) cd_240 (cond (Nat.blt m 242) cd_241 cd_242)) (cond (Nat.blt m 244) cd_243 (cond (Nat.blt m 245) cd_244 cd_245))))) (cond (Nat.blt m 257) (cond (Nat.blt m 251) (cond (Nat.blt m 248) (cond (Nat.blt m 247) cd_246 cd_247) (cond (Nat.blt m 249) cd_248 (cond (Nat.blt m 250) cd_249 cd_250))) (cond (Nat.blt m 254) (cond (Nat.blt m 252) cd_251 (cond (Nat.blt m 253) cd_252 cd_253)) (cond (Nat.blt m 255) cd_254 (cond (Nat.blt m 256) cd_255 cd_256)))) (cond (Nat.blt m 263) (cond (Nat.blt m 260) (cond (Nat.blt m 258) cd_257 (cond (Nat.blt m 259) cd_258 cd_259)) (cond (Nat.blt m 261) cd_260 (cond (Nat.blt m 262) cd_261 cd_262))) (cond (Nat.blt m 266) (cond (Nat.blt m 264) cd_263 (cond (Nat.blt m 265) cd_264 cd_265)) (cond (Nat.blt m 267) cd_266 (cond (Nat.blt m 268) cd_267 cd_268))))))) (cond (Nat.blt m 314) (cond (Nat.blt m 291) (cond (Nat.blt m 280) (cond (Nat.blt m 274) (cond (Nat.blt m 271) (cond (Nat.blt m 270) cd_269 cd_270) (cond (Nat.blt m 272) cd_271 (cond (Nat.blt m 273) cd_272 cd_273))) (cond (Nat.blt m 277) (cond (Nat.blt m 275) cd_274 (cond (Nat.blt m 276) cd_275 cd_276)) (cond (Nat.blt m 278) cd_277 (cond (Nat.blt m 279) cd_278 cd_279)))) (cond (Nat.blt m 285) (cond (Nat.blt m 282) (cond (Nat.blt m 281) cd_280 cd_281) (cond (Nat.blt m 283) cd_282 (cond (Nat.blt m 284) cd_283 cd_284))) (cond (Nat.blt m 288) (cond (Nat.blt m 286) cd_285 (cond (Nat.blt m 287) cd_286 cd_287)) (cond (Nat.blt m 289) cd_288 (cond (Nat.blt m 290) cd_289 cd_290))))) (cond (Nat.blt m 302) (cond (Nat.blt m 296) (cond (Nat.blt m 293) (cond (Nat.blt m 292) cd_291 cd_292) (cond (Nat.blt m 294) cd_293 (cond (Nat.blt m 295) cd_294 cd_295))) (cond (Nat.blt m 299) (cond (Nat.blt m 297) cd_296 (cond (Nat.blt m 298) cd_297 cd_298)) (cond (Nat.blt m 300) cd_299 (cond (Nat.blt m 301) cd_300 cd_301)))) (cond (Nat.blt m 308) (cond (Nat.blt m 305) (cond (Nat.blt m 303) cd_302 (cond (Nat.blt m 304) cd_303 cd_304)) (cond (Nat.blt m 306) cd_305 (cond (Nat.blt m 307) cd_306 cd_307))) (cond (Nat.blt m 311) (cond (Nat.blt m 309) cd_308 (cond (Nat.blt m 310) cd_309 cd_310)) (cond (Nat.blt m 312) cd_311 (cond (Nat.blt m 313) cd_312 cd_313)))))) (cond (Nat.blt m 336) (cond (Nat.blt m 325) (cond (Nat.blt m 319) (cond (Nat.blt m 316) (cond (Nat.blt m 315) cd_314 cd_315) (cond (Nat.blt m 317) cd_316 (cond (Nat.blt m 318) cd_317 cd_318))) (cond (Nat.blt m 322) (cond (Nat.blt m 320) cd_319 (cond (Nat.blt m 321) cd_320 cd_321)) (cond (Nat.blt m 323) cd_322 (cond (Nat.blt m 324) cd_323 cd_324)))) (cond (Nat.blt m 330) (cond (Nat.blt m 327) (cond (Nat.blt m 326) cd_325 cd_326) (cond (Nat.blt m 328) cd_327 (cond (Nat.blt m 329) cd_328 cd_329))) (cond (Nat.blt m 333) (cond (Nat.blt m 331) cd_330 (cond (Nat.blt m 332) cd_331 cd_332)) (cond (Nat.blt m 334) cd_333 (cond (Nat.blt m 335) cd_334 cd_335))))) (cond (Nat.blt m 347) (cond (Nat.blt m 341) (cond (Nat.blt m 338) (cond (Nat.blt m 337) cd_336 cd_337) (cond (Nat.blt m 339) cd_338 (cond (Nat.blt m 340) cd_339 cd_340))) (cond (Nat.blt m 344) (cond (Nat.blt m 342) cd_341 (cond (Nat.blt m 343) cd_342 cd_343)) (cond (Nat.blt m 345) cd_344 (cond (Nat.blt m 346) cd_345 cd_346)))) (cond (Nat.blt m 353) (cond (Nat.blt m 350) (cond (Nat.blt m 348) cd_347 (cond (Nat.blt m 349) cd_348 cd_349)) (cond (Nat.blt m 351) cd_350 (cond (Nat.blt m 352) cd_351 cd_352))) (cond (Nat.blt m 356) (cond (Nat.blt m 354) cd_353 (cond (Nat.blt m 355) cd_354 cd_355)) (cond (Nat.blt m 357) cd_356 (cond (Nat.blt m 358) cd_357 cd_358)))))))))
def sh_TT : Nat → (Nat → Option ai_Op) × ai_Mt := fun m => (sh_TC m, ai_TM m)
def sh_T : Nat → (Nat → Option ai_Op) × Nat := fun m => ((sh_TT m).1, (sh_TT m).2.2.2.1)
theorem sh_tr {b : Bool} {x y : Nat → Option ai_Op} {P : (Nat → Option ai_Op) → Prop} (p : P x) (q : P y) : P (cond b x y) := by
  cases b
  · exact q
  · exact p
theorem mc_0 : ai_MC cd_0 := fun pc op h => (sn_0 pc op h).2
theorem mc_1 : ai_MC cd_1 := fun pc op h => (sn_1 pc op h).2
theorem mc_2 : ai_MC cd_2 := fun pc op h => (sn_2 pc op h).2
theorem mc_3 : ai_MC cd_3 := fun pc op h => (sn_3 pc op h).2
theorem mc_4 : ai_MC cd_4 := fun pc op h => (sn_4 pc op h).2
theorem mc_5 : ai_MC cd_5 := fun pc op h => (sn_5 pc op h).2
theorem mc_6 : ai_MC cd_6 := fun pc op h => (sn_6 pc op h).2
theorem mc_7 : ai_MC cd_7 := fun pc op h => (sn_7 pc op h).2
theorem mc_8 : ai_MC cd_8 := fun pc op h => (sn_8 pc op h).2
theorem mc_9 : ai_MC cd_9 := fun pc op h => (sn_9 pc op h).2
theorem mc_10 : ai_MC cd_10 := fun pc op h => (sn_10 pc op h).2
theorem mc_11 : ai_MC cd_11 := fun pc op h => (sn_11 pc op h).2
theorem mc_12 : ai_MC cd_12 := fun pc op h => (sn_12 pc op h).2
theorem mc_13 : ai_MC cd_13 := fun pc op h => (sn_13 pc op h).2
theorem mc_14 : ai_MC cd_14 := fun pc op h => (sn_14 pc op h).2
theorem mc_15 : ai_MC cd_15 := fun pc op h => (sn_15 pc op h).2
theorem mc_16 : ai_MC cd_16 := fun pc op h => (sn_16 pc op h).2
theorem mc_17 : ai_MC cd_17 := fun pc op h => (sn_17 pc op h).2
theorem mc_18 : ai_MC cd_18 := fun pc op h => (sn_18 pc op h).2
theorem mc_19 : ai_MC cd_19 := fun pc op h => (sn_19 pc op h).2
theorem mc_20 : ai_MC cd_20 := fun pc op h => (sn_20 pc op h).2
theorem mc_21 : ai_MC cd_21 := fun pc op h => (sn_21 pc op h).2
theorem mc_22 : ai_MC cd_22 := fun pc op h => (sn_22 pc op h).2
theorem mc_23 : ai_MC cd_23 := fun pc op h => (sn_23 pc op h).2
theorem mc_24 : ai_MC cd_24 := fun pc op h => (sn_24 pc op h).2
theorem mc_25 : ai_MC cd_25 := fun pc op h => (sn_25 pc op h).2
theorem mc_26 : ai_MC cd_26 := fun pc op h => (sn_26 pc op h).2
theorem mc_27 : ai_MC cd_27 := fun pc op h => (sn_27 pc op h).2
theorem mc_28 : ai_MC cd_28 := fun pc op h => (sn_28 pc op h).2
theorem mc_29 : ai_MC cd_29 := fun pc op h => (sn_29 pc op h).2
theorem mc_30 : ai_MC cd_30 := fun pc op h => (sn_30 pc op h).2
theorem mc_31 : ai_MC cd_31 := fun pc op h => (sn_31 pc op h).2
theorem mc_32 : ai_MC cd_32 := fun pc op h => (sn_32 pc op h).2
theorem mc_33 : ai_MC cd_33 := fun pc op h => (sn_33 pc op h).2
theorem mc_34 : ai_MC cd_34 := fun pc op h => (sn_34 pc op h).2
theorem mc_35 : ai_MC cd_35 := fun pc op h => (sn_35 pc op h).2
theorem mc_36 : ai_MC cd_36 := fun pc op h => (sn_36 pc op h).2
theorem mc_37 : ai_MC cd_37 := fun pc op h => (sn_37 pc op h).2
theorem mc_38 : ai_MC cd_38 := fun pc op h => (sn_38 pc op h).2
theorem mc_39 : ai_MC cd_39 := fun pc op h => (sn_39 pc op h).2
theorem mc_40 : ai_MC cd_40 := fun pc op h => (sn_40 pc op h).2
theorem mc_41 : ai_MC cd_41 := fun pc op h => (sn_41 pc op h).2
theorem mc_42 : ai_MC cd_42 := fun pc op h => (sn_42 pc op h).2
theorem mc_43 : ai_MC cd_43 := fun pc op h => (sn_43 pc op h).2
theorem mc_44 : ai_MC cd_44 := fun pc op h => (sn_44 pc op h).2
theorem mc_45 : ai_MC cd_45 := fun pc op h => (sn_45 pc op h).2
theorem mc_46 : ai_MC cd_46 := fun pc op h => (sn_46 pc op h).2
theorem mc_47 : ai_MC cd_47 := fun pc op h => (sn_47 pc op h).2
theorem mc_48 : ai_MC cd_48 := fun pc op h => (sn_48 pc op h).2
theorem mc_49 : ai_MC cd_49 := fun pc op h => (sn_49 pc op h).2
theorem mc_50 : ai_MC cd_50 := fun pc op h => (sn_50 pc op h).2
theorem mc_51 : ai_MC cd_51 := fun pc op h => (sn_51 pc op h).2
theorem mc_52 : ai_MC cd_52 := fun pc op h => (sn_52 pc op h).2
theorem mc_53 : ai_MC cd_53 := fun pc op h => (sn_53 pc op h).2
theorem mc_54 : ai_MC cd_54 := fun pc op h => (sn_54 pc op h).2
theorem mc_55 : ai_MC cd_55 := fun pc op h => (sn_55 pc op h).2
theorem mc_56 : ai_MC cd_56 := fun pc op h => (sn_56 pc op h).2
theorem mc_57 : ai_MC cd_57 := fun pc op h => (sn_57 pc op h).2
theorem mc_58 : ai_MC cd_58 := fun pc op h => (sn_58 pc op h).2
theorem mc_59 : ai_MC cd_59 := fun pc op h => (sn_59 pc op h).2
theorem mc_60 : ai_MC cd_60 := fun pc op h => (sn_60 pc op h).2
theorem mc_61 : ai_MC cd_61 := fun pc op h => (sn_61 pc op h).2
theorem mc_62 : ai_MC cd_62 := fun pc op h => (sn_62 pc op h).2
theorem mc_63 : ai_MC cd_63 := fun pc op h => (sn_63 pc op h).2
theorem mc_64 : ai_MC cd_64 := fun pc op h => (sn_64 pc op h).2
theorem mc_65 : ai_MC cd_65 := fun pc op h => (sn_65 pc op h).2
theorem mc_66 : ai_MC cd_66 := fun pc op h => (sn_66 pc op h).2
theorem mc_67 : ai_MC cd_67 := fun pc op h => (sn_67 pc op h).2
theorem mc_68 : ai_MC cd_68 := fun pc op h => (sn_68 pc op h).2
theorem mc_69 : ai_MC cd_69 := fun pc op h => (sn_69 pc op h).2
theorem mc_70 : ai_MC cd_70 := fun pc op h => (sn_70 pc op h).2
theorem mc_71 : ai_MC cd_71 := fun pc op h => (sn_71 pc op h).2
theorem mc_72 : ai_MC cd_72 := fun pc op h => (sn_72 pc op h).2
theorem mc_73 : ai_MC cd_73 := fun pc op h => (sn_73 pc op h).2
theorem mc_74 : ai_MC cd_74 := fun pc op h => (sn_74 pc op h).2
theorem mc_75 : ai_MC cd_75 := fun pc op h => (sn_75 pc op h).2
theorem mc_76 : ai_MC cd_76 := fun pc op h => (sn_76 pc op h).2
theorem mc_77 : ai_MC cd_77 := fun pc op h => (sn_77 pc op h).2
theorem mc_78 : ai_MC cd_78 := fun pc op h => (sn_78 pc op h).2
theorem mc_79 : ai_MC cd_79 := fun pc op h => (sn_79 pc op h).2
theorem mc_80 : ai_MC cd_80 := fun pc op h => (sn_80 pc op h).2
theorem mc_81 : ai_MC cd_81 := fun pc op h => (sn_81 pc op h).2
theorem mc_82 : ai_MC cd_82 := fun pc op h => (sn_82 pc op h).2
theorem mc_83 : ai_MC cd_83 := fun pc op h => (sn_83 pc op h).2
theorem mc_84 : ai_MC cd_84 := fun pc op h => (sn_84 pc op h).2
theorem mc_85 : ai_MC cd_85 := fun pc op h => (sn_85 pc op h).2
theorem mc_86 : ai_MC cd_86 := fun pc op h => (sn_86 pc op h).2
theorem mc_87 : ai_MC cd_87 := fun pc op h => (sn_87 pc op h).2
theorem mc_88 : ai_MC cd_88 := fun pc op h => (sn_88 pc op h).2
theorem mc_89 : ai_MC cd_89 := fun pc op h => (sn_89 pc op h).2
theorem mc_90 : ai_MC cd_90 := fun pc op h => (sn_90 pc op h).2
theorem mc_91 : ai_MC cd_91 := fun pc op h => (sn_91 pc op h).2
theorem mc_92 : ai_MC cd_92 := fun pc op h => (sn_92 pc op h).2
theorem mc_93 : ai_MC cd_93 := fun pc op h => (sn_93 pc op h).2
theorem mc_94 : ai_MC cd_94 := fun pc op h => (sn_94 pc op h).2
theorem mc_95 : ai_MC cd_95 := fun pc op h => (sn_95 pc op h).2
theorem mc_96 : ai_MC cd_96 := fun pc op h => (sn_96 pc op h).2
theorem mc_97 : ai_MC cd_97 := fun pc op h => (sn_97 pc op h).2
theorem mc_98 : ai_MC cd_98 := fun pc op h => (sn_98 pc op h).2
theorem mc_99 : ai_MC cd_99 := fun pc op h => (sn_99 pc op h).2
theorem mc_100 : ai_MC cd_100 := fun pc op h => (sn_100 pc op h).2
theorem mc_101 : ai_MC cd_101 := fun pc op h => (sn_101 pc op h).2
theorem mc_102 : ai_MC cd_102 := fun pc op h => (sn_102 pc op h).2
theorem mc_103 : ai_MC cd_103 := fun pc op h => (sn_103 pc op h).2
theorem mc_104 : ai_MC cd_104 := fun pc op h => (sn_104 pc op h).2
theorem mc_105 : ai_MC cd_105 := fun pc op h => (sn_105 pc op h).2
theorem mc_106 : ai_MC cd_106 := fun pc op h => (sn_106 pc op h).2
theorem mc_107 : ai_MC cd_107 := fun pc op h => (sn_107 pc op h).2
theorem mc_108 : ai_MC cd_108 := fun pc op h => (sn_108 pc op h).2
theorem mc_109 : ai_MC cd_109 := fun pc op h => (sn_109 pc op h).2
theorem mc_110 : ai_MC cd_110 := fun pc op h => (sn_110 pc op h).2
theorem mc_111 : ai_MC cd_111 := fun pc op h => (sn_111 pc op h).2
theorem mc_112 : ai_MC cd_112 := fun pc op h => (sn_112 pc op h).2
theorem mc_113 : ai_MC cd_113 := fun pc op h => (sn_113 pc op h).2
theorem mc_114 : ai_MC cd_114 := fun pc op h => (sn_114 pc op h).2
theorem mc_115 : ai_MC cd_115 := fun pc op h => (sn_115 pc op h).2
theorem mc_116 : ai_MC cd_116 := fun pc op h => (sn_116 pc op h).2
theorem mc_117 : ai_MC cd_117 := fun pc op h => (sn_117 pc op h).2
theorem mc_118 : ai_MC cd_118 := fun pc op h => (sn_118 pc op h).2
theorem mc_119 : ai_MC cd_119 := fun pc op h => (sn_119 pc op h).2
theorem mc_120 : ai_MC cd_120 := fun pc op h => (sn_120 pc op h).2
theorem mc_121 : ai_MC cd_121 := fun pc op h => (sn_121 pc op h).2
theorem mc_122 : ai_MC cd_122 := fun pc op h => (sn_122 pc op h).2
theorem mc_123 : ai_MC cd_123 := fun pc op h => (sn_123 pc op h).2
theorem mc_124 : ai_MC cd_124 := fun pc op h => (sn_124 pc op h).2
theorem mc_125 : ai_MC cd_125 := fun pc op h => (sn_125 pc op h).2
theorem mc_126 : ai_MC cd_126 := fun pc op h => (sn_126 pc op h).2
theorem mc_127 : ai_MC cd_127 := fun pc op h => (sn_127 pc op h).2
theorem mc_128 : ai_MC cd_128 := fun pc op h => (sn_128 pc op h).2
theorem mc_129 : ai_MC cd_129 := fun pc op h => (sn_129 pc op h).2
theorem mc_130 : ai_MC cd_130 := fun pc op h => (sn_130 pc op h).2
theorem mc_131 : ai_MC cd_131 := fun pc op h => (sn_131 pc op h).2
theorem mc_132 : ai_MC cd_132 := fun pc op h => (sn_132 pc op h).2
theorem mc_133 : ai_MC cd_133 := fun pc op h => (sn_133 pc op h).2
theorem mc_134 : ai_MC cd_134 := fun pc op h => (sn_134 pc op h).2
theorem mc_135 : ai_MC cd_135 := fun pc op h => (sn_135 pc op h).2
theorem mc_136 : ai_MC cd_136 := fun pc op h => (sn_136 pc op h).2
theorem mc_137 : ai_MC cd_137 := fun pc op h => (sn_137 pc op h).2
theorem mc_138 : ai_MC cd_138 := fun pc op h => (sn_138 pc op h).2
theorem mc_139 : ai_MC cd_139 := fun pc op h => (sn_139 pc op h).2
theorem mc_140 : ai_MC cd_140 := fun pc op h => (sn_140 pc op h).2
theorem mc_141 : ai_MC cd_141 := fun pc op h => (sn_141 pc op h).2
theorem mc_142 : ai_MC cd_142 := fun pc op h => (sn_142 pc op h).2
theorem mc_143 : ai_MC cd_143 := fun pc op h => (sn_143 pc op h).2
theorem mc_144 : ai_MC cd_144 := fun pc op h => (sn_144 pc op h).2
theorem mc_145 : ai_MC cd_145 := fun pc op h => (sn_145 pc op h).2
theorem mc_146 : ai_MC cd_146 := fun pc op h => (sn_146 pc op h).2
theorem mc_147 : ai_MC cd_147 := fun pc op h => (sn_147 pc op h).2
theorem mc_148 : ai_MC cd_148 := fun pc op h => (sn_148 pc op h).2
theorem mc_149 : ai_MC cd_149 := fun pc op h => (sn_149 pc op h).2
theorem mc_150 : ai_MC cd_150 := fun pc op h => (sn_150 pc op h).2
theorem mc_151 : ai_MC cd_151 := fun pc op h => (sn_151 pc op h).2
theorem mc_152 : ai_MC cd_152 := fun pc op h => (sn_152 pc op h).2
theorem mc_153 : ai_MC cd_153 := fun pc op h => (sn_153 pc op h).2
theorem mc_154 : ai_MC cd_154 := fun pc op h => (sn_154 pc op h).2
theorem mc_155 : ai_MC cd_155 := fun pc op h => (sn_155 pc op h).2
theorem mc_156 : ai_MC cd_156 := fun pc op h => (sn_156 pc op h).2
theorem mc_157 : ai_MC cd_157 := fun pc op h => (sn_157 pc op h).2
theorem mc_158 : ai_MC cd_158 := fun pc op h => (sn_158 pc op h).2
theorem mc_159 : ai_MC cd_159 := fun pc op h => (sn_159 pc op h).2
theorem mc_160 : ai_MC cd_160 := fun pc op h => (sn_160 pc op h).2
theorem mc_161 : ai_MC cd_161 := fun pc op h => (sn_161 pc op h).2
theorem mc_162 : ai_MC cd_162 := fun pc op h => (sn_162 pc op h).2
theorem mc_163 : ai_MC cd_163 := fun pc op h => (sn_163 pc op h).2
theorem mc_164 : ai_MC cd_164 := fun pc op h => (sn_164 pc op h).2
theorem mc_165 : ai_MC cd_165 := fun pc op h => (sn_165 pc op h).2
theorem mc_166 : ai_MC cd_166 := fun pc op h => (sn_166 pc op h).2
theorem mc_167 : ai_MC cd_167 := fun pc op h => (sn_167 pc op h).2
theorem mc_168 : ai_MC cd_168 := fun pc op h => (sn_168 pc op h).2
theorem mc_169 : ai_MC cd_169 := fun pc op h => (sn_169 pc op h).2
theorem mc_170 : ai_MC cd_170 := fun pc op h => (sn_170 pc op h).2
theorem mc_171 : ai_MC cd_171 := fun pc op h => (sn_171 pc op h).2
theorem mc_172 : ai_MC cd_172 := fun pc op h => (sn_172 pc op h).2
theorem mc_173 : ai_MC cd_173 := fun pc op h => (sn_173 pc op h).2
theorem mc_174 : ai_MC cd_174 := fun pc op h => (sn_174 pc op h).2
theorem mc_175 : ai_MC cd_175 := fun pc op h => (sn_175 pc op h).2
theorem mc_176 : ai_MC cd_176 := fun pc op h => (sn_176 pc op h).2
theorem mc_177 : ai_MC cd_177 := fun pc op h => (sn_177 pc op h).2
theorem mc_178 : ai_MC cd_178 := fun pc op h => (sn_178 pc op h).2
theorem mc_179 : ai_MC cd_179 := fun pc op h => (sn_179 pc op h).2
theorem mc_180 : ai_MC cd_180 := fun pc op h => (sn_180 pc op h).2
theorem mc_181 : ai_MC cd_181 := fun pc op h => (sn_181 pc op h).2
theorem mc_182 : ai_MC cd_182 := fun pc op h => (sn_182 pc op h).2
theorem mc_183 : ai_MC cd_183 := fun pc op h => (sn_183 pc op h).2
theorem mc_184 : ai_MC cd_184 := fun pc op h => (sn_184 pc op h).2
theorem mc_185 : ai_MC cd_185 := fun pc op h => (sn_185 pc op h).2
theorem mc_186 : ai_MC cd_186 := fun pc op h => (sn_186 pc op h).2
theorem mc_187 : ai_MC cd_187 := fun pc op h => (sn_187 pc op h).2
theorem mc_188 : ai_MC cd_188 := fun pc op h => (sn_188 pc op h).2
theorem mc_189 : ai_MC cd_189 := fun pc op h => (sn_189 pc op h).2
theorem mc_190 : ai_MC cd_190 := fun pc op h => (sn_190 pc op h).2
theorem mc_191 : ai_MC cd_191 := fun pc op h => (sn_191 pc op h).2
theorem mc_192 : ai_MC cd_192 := fun pc op h => (sn_192 pc op h).2
theorem mc_193 : ai_MC cd_193 := fun pc op h => (sn_193 pc op h).2
theorem mc_194 : ai_MC cd_194 := fun pc op h => (sn_194 pc op h).2
theorem mc_195 : ai_MC cd_195 := fun pc op h => (sn_195 pc op h).2
theorem mc_196 : ai_MC cd_196 := fun pc op h => (sn_196 pc op h).2
theorem mc_197 : ai_MC cd_197 := fun pc op h => (sn_197 pc op h).2
theorem mc_198 : ai_MC cd_198 := fun pc op h => (sn_198 pc op h).2
theorem mc_199 : ai_MC cd_199 := fun pc op h => (sn_199 pc op h).2
theorem mc_200 : ai_MC cd_200 := fun pc op h => (sn_200 pc op h).2
theorem mc_201 : ai_MC cd_201 := fun pc op h => (sn_201 pc op h).2
theorem mc_202 : ai_MC cd_202 := fun pc op h => (sn_202 pc op h).2
theorem mc_203 : ai_MC cd_203 := fun pc op h => (sn_203 pc op h).2
theorem mc_204 : ai_MC cd_204 := fun pc op h => (sn_204 pc op h).2
theorem mc_205 : ai_MC cd_205 := fun pc op h => (sn_205 pc op h).2
theorem mc_206 : ai_MC cd_206 := fun pc op h => (sn_206 pc op h).2
theorem mc_207 : ai_MC cd_207 := fun pc op h => (sn_207 pc op h).2
theorem mc_208 : ai_MC cd_208 := fun pc op h => (sn_208 pc op h).2
theorem mc_209 : ai_MC cd_209 := fun pc op h => (sn_209 pc op h).2
theorem mc_210 : ai_MC cd_210 := fun pc op h => (sn_210 pc op h).2
theorem mc_211 : ai_MC cd_211 := fun pc op h => (sn_211 pc op h).2
theorem mc_212 : ai_MC cd_212 := fun pc op h => (sn_212 pc op h).2
theorem mc_213 : ai_MC cd_213 := fun pc op h => (sn_213 pc op h).2
theorem mc_214 : ai_MC cd_214 := fun pc op h => (sn_214 pc op h).2
theorem mc_215 : ai_MC cd_215 := fun pc op h => (sn_215 pc op h).2
theorem mc_216 : ai_MC cd_216 := fun pc op h => (sn_216 pc op h).2
theorem mc_217 : ai_MC cd_217 := fun pc op h => (sn_217 pc op h).2
theorem mc_218 : ai_MC cd_218 := fun pc op h => (sn_218 pc op h).2
theorem mc_219 : ai_MC cd_219 := fun pc op h => (sn_219 pc op h).2
theorem mc_220 : ai_MC cd_220 := fun pc op h => (sn_220 pc op h).2
theorem mc_221 : ai_MC cd_221 := fun pc op h => (sn_221 pc op h).2
theorem mc_222 : ai_MC cd_222 := fun pc op h => (sn_222 pc op h).2
theorem mc_223 : ai_MC cd_223 := fun pc op h => (sn_223 pc op h).2
theorem mc_224 : ai_MC cd_224 := fun pc op h => (sn_224 pc op h).2
theorem mc_225 : ai_MC cd_225 := fun pc op h => (sn_225 pc op h).2
theorem mc_226 : ai_MC cd_226 := fun pc op h => (sn_226 pc op h).2
theorem mc_227 : ai_MC cd_227 := fun pc op h => (sn_227 pc op h).2
theorem mc_228 : ai_MC cd_228 := fun pc op h => (sn_228 pc op h).2
theorem mc_229 : ai_MC cd_229 := fun pc op h => (sn_229 pc op h).2
theorem mc_230 : ai_MC cd_230 := fun pc op h => (sn_230 pc op h).2
theorem mc_231 : ai_MC cd_231 := fun pc op h => (sn_231 pc op h).2
theorem mc_232 : ai_MC cd_232 := fun pc op h => (sn_232 pc op h).2
theorem mc_233 : ai_MC cd_233 := fun pc op h => (sn_233 pc op h).2
theorem mc_234 : ai_MC cd_234 := fun pc op h => (sn_234 pc op h).2
theorem mc_235 : ai_MC cd_235 := fun pc op h => (sn_235 pc op h).2
theorem mc_236 : ai_MC cd_236 := fun pc op h => (sn_236 pc op h).2
theorem mc_237 : ai_MC cd_237 := fun pc op h => (sn_237 pc op h).2
theorem mc_238 : ai_MC cd_238 := fun pc op h => (sn_238 pc op h).2
theorem mc_239 : ai_MC cd_239 := fun pc op h => (sn_239 pc op h).2
theorem mc_240 : ai_MC cd_240 := fun pc op h => (sn_240 pc op h).2
theorem mc_241 : ai_MC cd_241 := fun pc op h => (sn_241 pc op h).2
theorem mc_242 : ai_MC cd_242 := fun pc op h => (sn_242 pc op h).2
theorem mc_243 : ai_MC cd_243 := fun pc op h => (sn_243 pc op h).2
theorem mc_244 : ai_MC cd_244 := fun pc op h => (sn_244 pc op h).2
theorem mc_245 : ai_MC cd_245 := fun pc op h => (sn_245 pc op h).2
theorem mc_246 : ai_MC cd_246 := fun pc op h => (sn_246 pc op h).2
theorem mc_247 : ai_MC cd_247 := fun pc op h => (sn_247 pc op h).2
theorem mc_248 : ai_MC cd_248 := fun pc op h => (sn_248 pc op h).2
theorem mc_249 : ai_MC cd_249 := fun pc op h => (sn_249 pc op h).2
theorem mc_250 : ai_MC cd_250 := fun pc op h => (sn_250 pc op h).2
theorem mc_251 : ai_MC cd_251 := fun pc op h => (sn_251 pc op h).2
theorem mc_252 : ai_MC cd_252 := fun pc op h => (sn_252 pc op h).2
theorem mc_253 : ai_MC cd_253 := fun pc op h => (sn_253 pc op h).2
theorem mc_254 : ai_MC cd_254 := fun pc op h => (sn_254 pc op h).2
theorem mc_255 : ai_MC cd_255 := fun pc op h => (sn_255 pc op h).2
theorem mc_256 : ai_MC cd_256 := fun pc op h => (sn_256 pc op h).2
theorem mc_257 : ai_MC cd_257 := fun pc op h => (sn_257 pc op h).2
theorem mc_258 : ai_MC cd_258 := fun pc op h => (sn_258 pc op h).2
theorem mc_259 : ai_MC cd_259 := fun pc op h => (sn_259 pc op h).2
theorem mc_260 : ai_MC cd_260 := fun pc op h => (sn_260 pc op h).2
theorem mc_261 : ai_MC cd_261 := fun pc op h => (sn_261 pc op h).2
theorem mc_262 : ai_MC cd_262 := fun pc op h => (sn_262 pc op h).2
theorem mc_263 : ai_MC cd_263 := fun pc op h => (sn_263 pc op h).2
theorem mc_264 : ai_MC cd_264 := fun pc op h => (sn_264 pc op h).2
theorem mc_265 : ai_MC cd_265 := fun pc op h => (sn_265 pc op h).2
theorem mc_266 : ai_MC cd_266 := fun pc op h => (sn_266 pc op h).2
theorem mc_267 : ai_MC cd_267 := fun pc op h => (sn_267 pc op h).2
theorem mc_268 : ai_MC cd_268 := fun pc op h => (sn_268 pc op h).2
theorem mc_269 : ai_MC cd_269 := fun pc op h => (sn_269 pc op h).2
theorem mc_270 : ai_MC cd_270 := fun pc op h => (sn_270 pc op h).2
theorem mc_271 : ai_MC cd_271 := fun pc op h => (sn_271 pc op h).2
theorem mc_272 : ai_MC cd_272 := fun pc op h => (sn_272 pc op h).2
theorem mc_273 : ai_MC cd_273 := fun pc op h => (sn_273 pc op h).2
theorem mc_274 : ai_MC cd_274 := fun pc op h => (sn_274 pc op h).2
theorem mc_275 : ai_MC cd_275 := fun pc op h => (sn_275 pc op h).2
theorem mc_276 : ai_MC cd_276 := fun pc op h => (sn_276 pc op h).2
theorem mc_277 : ai_MC cd_277 := fun pc op h => (sn_277 pc op h).2
theorem mc_278 : ai_MC cd_278 := fun pc op h => (sn_278 pc op h).2
theorem mc_279 : ai_MC cd_279 := fun pc op h => (sn_279 pc op h).2
theorem mc_280 : ai_MC cd_280 := fun pc op h => (sn_280 pc op h).2
theorem mc_281 : ai_MC cd_281 := fun pc op h => (sn_281 pc op h).2
theorem mc_282 : ai_MC cd_282 := fun pc op h => (sn_282 pc op h).2
theorem mc_283 : ai_MC cd_283 := fun pc op h => (sn_283 pc op h).2
theorem mc_284 : ai_MC cd_284 := fun pc op h => (sn_284 pc op h).2
theorem mc_285 : ai_MC cd_285 := fun pc op h => (sn_285 pc op h).2
theorem mc_286 : ai_MC cd_286 := fun pc op h => (sn_286 pc op h).2
theorem mc_287 : ai_MC cd_287 := fun pc op h => (sn_287 pc op h).2
theorem mc_288 : ai_MC cd_288 := fun pc op h => (sn_288 pc op h).2
theorem mc_289 : ai_MC cd_289 := fun pc op h => (sn_289 pc op h).2
theorem mc_290 : ai_MC cd_290 := fun pc op h => (sn_290 pc op h).2
theorem mc_291 : ai_MC cd_291 := fun pc op h => (sn_291 pc op h).2
theorem mc_292 : ai_MC cd_292 := fun pc op h => (sn_292 pc op h).2
theorem mc_293 : ai_MC cd_293 := fun pc op h => (sn_293 pc op h).2
theorem mc_294 : ai_MC cd_294 := fun pc op h => (sn_294 pc op h).2
theorem mc_295 : ai_MC cd_295 := fun pc op h => (sn_295 pc op h).2
theorem mc_296 : ai_MC cd_296 := fun pc op h => (sn_296 pc op h).2
theorem mc_297 : ai_MC cd_297 := fun pc op h => (sn_297 pc op h).2
theorem mc_298 : ai_MC cd_298 := fun pc op h => (sn_298 pc op h).2
theorem mc_299 : ai_MC cd_299 := fun pc op h => (sn_299 pc op h).2
theorem mc_300 : ai_MC cd_300 := fun pc op h => (sn_300 pc op h).2
theorem mc_301 : ai_MC cd_301 := fun pc op h => (sn_301 pc op h).2
theorem mc_302 : ai_MC cd_302 := fun pc op h => (sn_302 pc op h).2
theorem mc_303 : ai_MC cd_303 := fun pc op h => (sn_303 pc op h).2
theorem mc_304 : ai_MC cd_304 := fun pc op h => (sn_304 pc op h).2
theorem mc_305 : ai_MC cd_305 := fun pc op h => (sn_305 pc op h).2
theorem mc_306 : ai_MC cd_306 := fun pc op h => (sn_306 pc op h).2
theorem mc_307 : ai_MC cd_307 := fun pc op h => (sn_307 pc op h).2
theorem mc_308 : ai_MC cd_308 := fun pc op h => (sn_308 pc op h).2
theorem mc_309 : ai_MC cd_309 := fun pc op h => (sn_309 pc op h).2
theorem mc_310 : ai_MC cd_310 := fun pc op h => (sn_310 pc op h).2
theorem mc_311 : ai_MC cd_311 := fun pc op h => (sn_311 pc op h).2
theorem mc_312 : ai_MC cd_312 := fun pc op h => (sn_312 pc op h).2
theorem mc_313 : ai_MC cd_313 := fun pc op h => (sn_313 pc op h).2
theorem mc_314 : ai_MC cd_314 := fun pc op h => (sn_314 pc op h).2
theorem mc_315 : ai_MC cd_315 := fun pc op h => (sn_315 pc op h).2
theorem mc_316 : ai_MC cd_316 := fun pc op h => (sn_316 pc op h).2
theorem mc_317 : ai_MC cd_317 := fun pc op h => (sn_317 pc op h).2
theorem mc_318 : ai_MC cd_318 := fun pc op h => (sn_318 pc op h).2
theorem mc_319 : ai_MC cd_319 := fun pc op h => (sn_319 pc op h).2
theorem mc_320 : ai_MC cd_320 := fun pc op h => (sn_320 pc op h).2
theorem mc_321 : ai_MC cd_321 := fun pc op h => (sn_321 pc op h).2
theorem mc_322 : ai_MC cd_322 := fun pc op h => (sn_322 pc op h).2
theorem mc_323 : ai_MC cd_323 := fun pc op h => (sn_323 pc op h).2
theorem mc_324 : ai_MC cd_324 := fun pc op h => (sn_324 pc op h).2
theorem mc_325 : ai_MC cd_325 := fun pc op h => (sn_325 pc op h).2
theorem mc_326 : ai_MC cd_326 := fun pc op h => (sn_326 pc op h).2
theorem mc_327 : ai_MC cd_327 := fun pc op h => (sn_327 pc op h).2
theorem mc_328 : ai_MC cd_328 := fun pc op h => (sn_328 pc op h).2
theorem mc_329 : ai_MC cd_329 := fun pc op h => (sn_329 pc op h).2
theorem mc_330 : ai_MC cd_330 := fun pc op h => (sn_330 pc op h).2
theorem mc_331 : ai_MC cd_331 := fun pc op h => (sn_331 pc op h).2
theorem mc_332 : ai_MC cd_332 := fun pc op h => (sn_332 pc op h).2
theorem mc_333 : ai_MC cd_333 := fun pc op h => (sn_333 pc op h).2
theorem mc_334 : ai_MC cd_334 := fun pc op h => (sn_334 pc op h).2
theorem mc_335 : ai_MC cd_335 := fun pc op h => (sn_335 pc op h).2
theorem mc_336 : ai_MC cd_336 := fun pc op h => (sn_336 pc op h).2
theorem mc_337 : ai_MC cd_337 := fun pc op h => (sn_337 pc op h).2
theorem mc_338 : ai_MC cd_338 := fun pc op h => (sn_338 pc op h).2
theorem mc_339 : ai_MC cd_339 := fun pc op h => (sn_339 pc op h).2
theorem mc_340 : ai_MC cd_340 := fun pc op h => (sn_340 pc op h).2
theorem mc_341 : ai_MC cd_341 := fun pc op h => (sn_341 pc op h).2
theorem mc_342 : ai_MC cd_342 := fun pc op h => (sn_342 pc op h).2
theorem mc_343 : ai_MC cd_343 := fun pc op h => (sn_343 pc op h).2
theorem mc_344 : ai_MC cd_344 := fun pc op h => (sn_344 pc op h).2
theorem mc_345 : ai_MC cd_345 := fun pc op h => (sn_345 pc op h).2
theorem mc_346 : ai_MC cd_346 := fun pc op h => (sn_346 pc op h).2
theorem mc_347 : ai_MC cd_347 := fun pc op h => (sn_347 pc op h).2
theorem mc_348 : ai_MC cd_348 := fun pc op h => (sn_348 pc op h).2
theorem mc_349 : ai_MC cd_349 := fun pc op h => (sn_349 pc op h).2
theorem mc_350 : ai_MC cd_350 := fun pc op h => (sn_350 pc op h).2
theorem mc_351 : ai_MC cd_351 := fun pc op h => (sn_351 pc op h).2
theorem mc_352 : ai_MC cd_352 := fun pc op h => (sn_352 pc op h).2
theorem mc_353 : ai_MC cd_353 := fun pc op h => (sn_353 pc op h).2
theorem mc_354 : ai_MC cd_354 := fun pc op h => (sn_354 pc op h).2
theorem mc_355 : ai_MC cd_355 := fun pc op h => (sn_355 pc op h).2
theorem mc_356 : ai_MC cd_356 := fun pc op h => (sn_356 pc op h).2
theorem mc_357 : ai_MC cd_357 := fun pc op h => (sn_357 pc op h).2
theorem mc_358 : ai_MC cd_358 := fun pc op h => (sn_358 pc op h).2
theorem mc_L : ai_MC cd_L := fun pc op h => (sn_L pc op h).2
theorem sh_MC (m : Nat) : ai_MC (sh_TC m) := (sh_tr (P := ai_MC) (sh_tr (P := ai_MC) (sh_tr (P := ai_MC) (sh_tr (P := ai_MC) (sh_tr (P := ai_MC) (sh_tr (P := ai_MC) (sh_tr (P := ai_MC) (sh_tr (P := ai_MC) mc_0 mc_1) (sh_tr (P := ai_MC) mc_2 (sh_tr (P := ai_MC) mc_3 mc_4))) (sh_tr (P := ai_MC) (sh_tr (P := ai_MC) mc_5 (sh_tr (P := ai_MC) mc_6 mc_7)) (sh_tr (P := ai_MC) mc_8 (sh_tr (P := ai_MC) mc_9 mc_10)))) (sh_tr (P := ai_MC) (sh_tr (P := ai_MC) (sh_tr (P := ai_MC) mc_11 mc_12) (sh_tr (P := ai_MC) mc_13 (sh_tr (P := ai_MC) mc_14 mc_15))) (sh_tr (P := ai_MC) (sh_tr (P := ai_MC) mc_16 (sh_tr (P := ai_MC) mc_17 mc_18)) (sh_tr (P := ai_MC) mc_19 (sh_tr (P := ai_MC) mc_20 mc_21))))) (sh_tr (P := ai_MC) (sh_tr (P := ai_MC) (sh_tr (P := ai_MC) (sh_tr (P := ai_MC) mc_22 mc_23) (sh_tr (P := ai_MC) mc_24 (sh_tr (P := ai_MC) mc_25 mc_26))) (sh_tr (P := ai_MC) (sh_tr (P := ai_MC) mc_27 (sh_tr (P := ai_MC) mc_28 mc_29)) (sh_tr (P := ai_MC) mc_30 (sh_tr (P := ai_MC) mc_31 mc_32)))) (sh_tr (P := ai_MC) (sh_tr (P := ai_MC) (sh_tr (P := ai_MC) mc_33 mc_34) (sh_tr (P := ai_MC) mc_35 (sh_tr (P := ai_MC) mc_36 mc_37))) (sh_tr (P := ai_MC) (sh_tr (P := ai_MC) mc_38 (sh_tr (P := ai_MC) mc_39 mc_40)) (sh_tr (P := ai_MC) mc_41 (sh_tr (P := ai_MC) mc_42 mc_43)))))) (sh_tr (P := ai_MC) (sh_tr (P := ai_MC) (sh_tr (P := ai_MC) (sh_tr (P := ai_MC) (sh_tr (P := ai_MC) mc_44 mc_45) (sh_tr (P := ai_MC) mc_46 (sh_tr (P := ai_MC) mc_47 mc_48))) (sh_tr (P := ai_MC) (sh_tr (P := ai_MC) mc_49 (sh_tr (P := ai_MC) mc_50 mc_51)) (sh_tr (P := ai_MC) mc_52 (sh_tr (P := ai_MC) mc_53 mc_54)))) (sh_tr (P := ai_MC) (sh_tr (P := ai_MC) (sh_tr (P := ai_MC) mc_55 mc_56) (sh_tr (P := ai_MC) mc_57 (sh_tr (P := ai_MC) mc_58 mc_59))) (sh_tr (P := ai_MC) (sh_tr (P := ai_MC) mc_60 (sh_tr (P := ai_MC) mc_61 mc_62)) (sh_tr (P := ai_MC) mc_63 (sh_tr (P := ai_MC) mc_64 mc_65))))) (sh_tr (P := ai_MC) (sh_tr (P := ai_MC) (sh_tr (P := ai_MC) (sh_tr (P := ai_MC) mc_66 mc_67) (sh_tr (P := ai_MC) mc_68 (sh_tr (P := ai_MC) mc_69 mc_70))) (sh_tr (P := ai_MC) (sh_tr (P := ai_MC) mc_71 (sh_tr (P := ai_MC) mc_72 mc_73)) (sh_tr (P := ai_MC) mc_74 (sh_tr (P := ai_MC) mc_75 mc_76)))) (sh_tr (P := ai_MC) (sh_tr (P := ai_MC) (sh_tr (P := ai_MC) mc_77 (sh_tr (P := ai_MC) mc_78 mc_79)) (sh_tr (P := ai_MC) mc_80 (sh_tr (P := ai_MC) mc_81 mc_82))) (sh_tr (P := ai_MC) (sh_tr (P := ai_MC) mc_83 (sh_tr (P := ai_MC) mc_84 mc_85)) (sh_tr (P := ai_MC) mc_86 (sh_tr (P := ai_MC) mc_87 mc_88))))))) (sh_tr (P := ai_MC) (sh_tr (P := ai_MC) (sh_tr (P := ai_MC) (sh_tr (P := ai_MC) (sh_tr (P := ai_MC) (sh_tr (P := ai_MC) mc_89 mc_90) (sh_tr (P := ai_MC) mc_91 (sh_tr (P := ai_MC) mc_92 mc_93))) (sh_tr (P := ai_MC) (sh_tr (P := ai_MC) mc_94 (sh_tr (P := ai_MC) mc_95 mc_96)) (sh_tr (P := ai_MC) mc_97 (sh_tr (P := ai_MC) mc_98 mc_99)))) (sh_tr (P := ai_MC) (sh_tr (P := ai_MC) (sh_tr (P := ai_MC) mc_100 mc_101) (sh_tr (P := ai_MC) mc_102 (sh_tr (P := ai_MC) mc_103 mc_104))) (sh_tr (P := ai_MC) (sh_tr (P := ai_MC) mc_105 (sh_tr (P := ai_MC) mc_106 mc_107)) (sh_tr (P := ai_MC) mc_108 (sh_tr (P := ai_MC) mc_109 mc_110))))) (sh_tr (P := ai_MC) (sh_tr (P := ai_MC) (sh_tr (P := ai_MC) (sh_tr (P := ai_MC) mc_111 mc_112) (sh_tr (P := ai_MC) mc_113 (sh_tr (P := ai_MC) mc_114 mc_115))) (sh_tr (P := ai_MC) (sh_tr (P := ai_MC) mc_116 (sh_tr (P := ai_MC) mc_117 mc_118)) (sh_tr (P := ai_MC) mc_119 (sh_tr (P := ai_MC) mc_120 mc_121)))) (sh_tr (P := ai_MC) (sh_tr (P := ai_MC) (sh_tr (P := ai_MC) mc_122 (sh_tr (P := ai_MC) mc_123 mc_124)) (sh_tr (P := ai_MC) mc_125 (sh_tr (P := ai_MC) mc_126 mc_127))) (sh_tr (P := ai_MC) (sh_tr (P := ai_MC) mc_128 (sh_tr (P := ai_MC) mc_129 mc_130)) (sh_tr (P := ai_MC) mc_131 (sh_tr (P := ai_MC) mc_132 mc_133)))))) (sh_tr (P := ai_MC) (sh_tr (P := ai_MC) (sh_tr (P := ai_MC) (sh_tr (P := ai_MC) (sh_tr (P := ai_MC) mc_134 mc_135) (sh_tr (P := ai_MC) mc_136 (sh_tr (P := ai_MC) mc_137 mc_138))) (sh_tr (P := ai_MC) (sh_tr (P := ai_MC) mc_139 (sh_tr (P := ai_MC) mc_140 mc_141)) (sh_tr (P := ai_MC) mc_142 (sh_tr (P := ai_MC) mc_143 mc_144)))) (sh_tr (P := ai_MC) (sh_tr (P := ai_MC) (sh_tr (P := ai_MC) mc_145 mc_146) (sh_tr (P := ai_MC) mc_147 (sh_tr (P := ai_MC) mc_148 mc_149))) (sh_tr (P := ai_MC) (sh_tr (P := ai_MC) mc_150 (sh_tr (P := ai_MC) mc_151 mc_152)) (sh_tr (P := ai_MC) mc_153 (sh_tr (P := ai_MC) mc_154 mc_155))))) (sh_tr (P := ai_MC) (sh_tr (P := ai_MC) (sh_tr (P := ai_MC) (sh_tr (P := ai_MC) mc_156 mc_157) (sh_tr (P := ai_MC) mc_158 (sh_tr (P := ai_MC) mc_159 mc_160))) (sh_tr (P := ai_MC) (sh_tr (P := ai_MC) mc_161 (sh_tr (P := ai_MC) mc_162 mc_163)) (sh_tr (P := ai_MC) mc_164 (sh_tr (P := ai_MC) mc_165 mc_166)))) (sh_tr (P := ai_MC) (sh_tr (P := ai_MC) (sh_tr (P := ai_MC) mc_167 (sh_tr (P := ai_MC) mc_168 mc_169)) (sh_tr (P := ai_MC) mc_170 (sh_tr (P := ai_MC) mc_171 mc_172))) (sh_tr (P := ai_MC) (sh_tr (P := ai_MC) mc_173 (sh_tr (P := ai_MC) mc_174 mc_175)) (sh_tr (P := ai_MC) mc_176 (sh_tr (P := ai_MC) mc_177 mc_178)))))))) (sh_tr (P := ai_MC) (sh_tr (P := ai_MC) (sh_tr (P := ai_MC) (sh_tr (P := ai_MC) (sh_tr (P := ai_MC) (sh_tr (P := ai_MC) (sh_tr (P := ai_MC) mc_179 mc_180) (sh_tr (P := ai_MC) mc_181 (sh_tr (P := ai_MC) mc_182 mc_183))) (sh_tr (P := ai_MC) (sh_tr (P := ai_MC) mc_184 (sh_tr (P := ai_MC) mc_185 mc_186)) (sh_tr (P := ai_MC) mc_187 (sh_tr (P := ai_MC) mc_188 mc_189)))) (sh_tr (P := ai_MC) (sh_tr (P := ai_MC) (sh_tr (P := ai_MC) mc_190 mc_191) (sh_tr (P := ai_MC) mc_192 (sh_tr (P := ai_MC) mc_193 mc_194))) (sh_tr (P := ai_MC) (sh_tr (P := ai_MC) mc_195 (sh_tr (P := ai_MC) mc_196 mc_197)) (sh_tr (P := ai_MC) mc_198 (sh_tr (P := ai_MC) mc_199 mc_200))))) (sh_tr (P := ai_MC) (sh_tr (P := ai_MC) (sh_tr (P := ai_MC) (sh_tr (P := ai_MC) mc_201 mc_202) (sh_tr (P := ai_MC) mc_203 (sh_tr (P := ai_MC) mc_204 mc_205))) (sh_tr (P := ai_MC) (sh_tr (P := ai_MC) mc_206 (sh_tr (P := ai_MC) mc_207 mc_208)) (sh_tr (P := ai_MC) mc_209 (sh_tr (P := ai_MC) mc_210 mc_211)))) (sh_tr (P := ai_MC) (sh_tr (P := ai_MC) (sh_tr (P := ai_MC) mc_212 (sh_tr (P := ai_MC) mc_213 mc_214)) (sh_tr (P := ai_MC) mc_215 (sh_tr (P := ai_MC) mc_216 mc_217))) (sh_tr (P := ai_MC) (sh_tr (P := ai_MC) mc_218 (sh_tr (P := ai_MC) mc_219 mc_220)) (sh_tr (P := ai_MC) mc_221 (sh_tr (P := ai_MC) mc_222 mc_223)))))) (sh_tr (P := ai_MC) (sh_tr (P := ai_MC) (sh_tr (P := ai_MC) (sh_tr (P := ai_MC) (sh_tr (P := ai_MC) mc_224 mc_225) (sh_tr (P := ai_MC) mc_226 (sh_tr (P := ai_MC) mc_227 mc_228))) (sh_tr (P := ai_MC) (sh_tr (P := ai_MC) mc_229 (sh_tr (P := ai_MC) mc_230 mc_231)) (sh_tr (P := ai_MC) mc_232 (sh_tr (P := ai_MC) mc_233 mc_234)))) (sh_tr (P := ai_MC) (sh_tr (P := ai_MC) (sh_tr (P := ai_MC) mc_235 mc_236) (sh_tr (P := ai_MC) mc_237 (sh_tr (P := ai_MC) mc_238 mc_239))) (sh_tr (P := ai_MC) (sh_tr (P := ai_MC) mc_240 (sh_tr (P := ai_MC) mc_241 mc_242)) (sh_tr (P := ai_MC) mc_243 (sh_tr (P := ai_MC) mc_244 mc_245))))) (sh_tr (P := ai_MC) (sh_tr (P := ai_MC) (sh_tr (P := ai_MC) (sh_tr (P := ai_MC) mc_246 mc_247) (sh_tr (P := ai_MC) mc_248 (sh_tr (P := ai_MC) mc_249 mc_250))) (sh_tr (P := ai_MC) (sh_tr (P := ai_MC) mc_251 (sh_tr (P := ai_MC) mc_252 mc_253)) (sh_tr (P := ai_MC) mc_254 (sh_tr (P := ai_MC) mc_255 mc_256)))) (sh_tr (P := ai_MC) (sh_tr (P := ai_MC) (sh_tr (P := ai_MC) mc_257 (sh_tr (P := ai_MC) mc_258 mc_259)) (sh_tr (P := ai_MC) mc_260 (sh_tr (P := ai_MC) mc_261 mc_262))) (sh_tr (P := ai_MC) (sh_tr (P := ai_MC) mc_263 (sh_tr (P := ai_MC) mc_264 mc_265)) (sh_tr (P := ai_MC) mc_266 (sh_tr (P := ai_MC) mc_267 mc_268))))))) (sh_tr (P := ai_MC) (sh_tr (P := ai_MC) (sh_tr (P := ai_MC) (sh_tr (P := ai_MC) (sh_tr (P := ai_MC) (sh_tr (P := ai_MC) mc_269 mc_270) (sh_tr (P := ai_MC) mc_271 (sh_tr (P := ai_MC) mc_272 mc_273))) (sh_tr (P := ai_MC) (sh_tr (P := ai_MC) mc_274 (sh_tr (P := ai_MC) mc_275 mc_276)) (sh_tr (P := ai_MC) mc_277 (sh_tr (P := ai_MC) mc_278 mc_279)))) (sh_tr (P := ai_MC) (sh_tr (P := ai_MC) (sh_tr (P := ai_MC) mc_280 mc_281) (sh_tr (P := ai_MC) mc_282 (sh_tr (P := ai_MC) mc_283 mc_284))) (sh_tr (P := ai_MC) (sh_tr (P := ai_MC) mc_285 (sh_tr (P := ai_MC) mc_286 mc_287)) (sh_tr (P := ai_MC) mc_288 (sh_tr (P := ai_MC) mc_289 mc_290))))) (sh_tr (P := ai_MC) (sh_tr (P := ai_MC) (sh_tr (P := ai_MC) (sh_tr (P := ai_MC) mc_291 mc_292) (sh_tr (P := ai_MC) mc_293 (sh_tr (P := ai_MC) mc_294 mc_295))) (sh_tr (P := ai_MC) (sh_tr (P := ai_MC) mc_296 (sh_tr (P := ai_MC) mc_297 mc_298)) (sh_tr (P := ai_MC) mc_299 (sh_tr (P := ai_MC) mc_300 mc_301)))) (sh_tr (P := ai_MC) (sh_tr (P := ai_MC) (sh_tr (P := ai_MC) mc_302 (sh_tr (P := ai_MC) mc_303 mc_304)) (sh_tr (P := ai_MC) mc_305 (sh_tr (P := ai_MC) mc_306 mc_307))) (sh_tr (P := ai_MC) (sh_tr (P := ai_MC) mc_308 (sh_tr (P := ai_MC) mc_309 mc_310)) (sh_tr (P := ai_MC) mc_311 (sh_tr (P := ai_MC) mc_312 mc_313)))))) (sh_tr (P := ai_MC) (sh_tr (P := ai_MC) (sh_tr (P := ai_MC) (sh_tr (P := ai_MC) (sh_tr (P := ai_MC) mc_314 mc_315) (sh_tr (P := ai_MC) mc_316 (sh_tr (P := ai_MC) mc_317 mc_318))) (sh_tr (P := ai_MC) (sh_tr (P := ai_MC) mc_319 (sh_tr (P := ai_MC) mc_320 mc_321)) (sh_tr (P := ai_MC) mc_322 (sh_tr (P := ai_MC) mc_323 mc_324)))) (sh_tr (P := ai_MC) (sh_tr (P := ai_MC) (sh_tr (P := ai_MC) mc_325 mc_326) (sh_tr (P := ai_MC) mc_327 (sh_tr (P := ai_MC) mc_328 mc_329))) (sh_tr (P := ai_MC) (sh_tr (P := ai_MC) mc_330 (sh_tr (P := ai_MC) mc_331 mc_332)) (sh_tr (P := ai_MC) mc_333 (sh_tr (P := ai_MC) mc_334 mc_335))))) (sh_tr (P := ai_MC) (sh_tr (P := ai_MC) (sh_tr (P := ai_MC) (sh_tr (P := ai_MC) mc_336 mc_337) (sh_tr (P := ai_MC) mc_338 (sh_tr (P := ai_MC) mc_339 mc_340))) (sh_tr (P := ai_MC) (sh_tr (P := ai_MC) mc_341 (sh_tr (P := ai_MC) mc_342 mc_343)) (sh_tr (P := ai_MC) mc_344 (sh_tr (P := ai_MC) mc_345 mc_346)))) (sh_tr (P := ai_MC) (sh_tr (P := ai_MC) (sh_tr (P := ai_MC) mc_347 (sh_tr (P := ai_MC) mc_348 mc_349)) (sh_tr (P := ai_MC) mc_350 (sh_tr (P := ai_MC) mc_351 mc_352))) (sh_tr (P := ai_MC) (sh_tr (P := ai_MC) mc_353 (sh_tr (P := ai_MC) mc_354 mc_355)) (sh_tr (P := ai_MC) mc_356 (sh_tr (P := ai_MC) mc_357 mc_358)))))))))
theorem sh_CM (d : Nat) : ai_CM (ai_Ex sh_T d) := ai_Ex_CM sh_MC d
abbrev wq_0 (d : Nat) (Q : ai_Q) := ai_WP cd_0 (ai_Ex sh_T d) Q 0 0
abbrev wq_1 (d : Nat) (Q : ai_Q) := ai_WP cd_1 (ai_Ex sh_T d) Q 0 0
abbrev wq_2 (d : Nat) (Q : ai_Q) := ai_WP cd_2 (ai_Ex sh_T d) Q 0 0
abbrev wq_3 (d : Nat) (Q : ai_Q) := ai_WP cd_3 (ai_Ex sh_T d) Q 0 0
abbrev wq_4 (d : Nat) (Q : ai_Q) := ai_WP cd_4 (ai_Ex sh_T d) Q 0 0
abbrev wq_5 (d : Nat) (Q : ai_Q) := ai_WP cd_5 (ai_Ex sh_T d) Q 0 0
abbrev wq_6 (d : Nat) (Q : ai_Q) := ai_WP cd_6 (ai_Ex sh_T d) Q 0 0
abbrev wq_7 (d : Nat) (Q : ai_Q) := ai_WP cd_7 (ai_Ex sh_T d) Q 0 0
abbrev wq_8 (d : Nat) (Q : ai_Q) := ai_WP cd_8 (ai_Ex sh_T d) Q 0 0
abbrev wq_9 (d : Nat) (Q : ai_Q) := ai_WP cd_9 (ai_Ex sh_T d) Q 0 0
abbrev wq_10 (d : Nat) (Q : ai_Q) := ai_WP cd_10 (ai_Ex sh_T d) Q 0 0
abbrev wq_11 (d : Nat) (Q : ai_Q) := ai_WP cd_11 (ai_Ex sh_T d) Q 0 0
abbrev wq_12 (d : Nat) (Q : ai_Q) := ai_WP cd_12 (ai_Ex sh_T d) Q 0 0
abbrev wq_13 (d : Nat) (Q : ai_Q) := ai_WP cd_13 (ai_Ex sh_T d) Q 0 0
abbrev wq_14 (d : Nat) (Q : ai_Q) := ai_WP cd_14 (ai_Ex sh_T d) Q 0 0
abbrev wq_15 (d : Nat) (Q : ai_Q) := ai_WP cd_15 (ai_Ex sh_T d) Q 0 0
abbrev wq_16 (d : Nat) (Q : ai_Q) := ai_WP cd_16 (ai_Ex sh_T d) Q 0 0
abbrev wq_17 (d : Nat) (Q : ai_Q) := ai_WP cd_17 (ai_Ex sh_T d) Q 0 0
abbrev wq_18 (d : Nat) (Q : ai_Q) := ai_WP cd_18 (ai_Ex sh_T d) Q 0 0
abbrev wq_19 (d : Nat) (Q : ai_Q) := ai_WP cd_19 (ai_Ex sh_T d) Q 0 0
abbrev wq_20 (d : Nat) (Q : ai_Q) := ai_WP cd_20 (ai_Ex sh_T d) Q 0 0
abbrev wq_21 (d : Nat) (Q : ai_Q) := ai_WP cd_21 (ai_Ex sh_T d) Q 0 0
abbrev wq_22 (d : Nat) (Q : ai_Q) := ai_WP cd_22 (ai_Ex sh_T d) Q 0 0
abbrev wq_23 (d : Nat) (Q : ai_Q) := ai_WP cd_23 (ai_Ex sh_T d) Q 0 0
abbrev wq_24 (d : Nat) (Q : ai_Q) := ai_WP cd_24 (ai_Ex sh_T d) Q 0 0
abbrev wq_25 (d : Nat) (Q : ai_Q) := ai_WP cd_25 (ai_Ex sh_T d) Q 0 0
abbrev wq_26 (d : Nat) (Q : ai_Q) := ai_WP cd_26 (ai_Ex sh_T d) Q 0 0
abbrev wq_27 (d : Nat) (Q : ai_Q) := ai_WP cd_27 (ai_Ex sh_T d) Q 0 0
abbrev wq_28 (d : Nat) (Q : ai_Q) := ai_WP cd_28 (ai_Ex sh_T d) Q 0 0
abbrev wq_29 (d : Nat) (Q : ai_Q) := ai_WP cd_29 (ai_Ex sh_T d) Q 0 0
abbrev wq_30 (d : Nat) (Q : ai_Q) := ai_WP cd_30 (ai_Ex sh_T d) Q 0 0
abbrev wq_31 (d : Nat) (Q : ai_Q) := ai_WP cd_31 (ai_Ex sh_T d) Q 0 0
abbrev wq_32 (d : Nat) (Q : ai_Q) := ai_WP cd_32 (ai_Ex sh_T d) Q 0 0
abbrev wq_33 (d : Nat) (Q : ai_Q) := ai_WP cd_33 (ai_Ex sh_T d) Q 0 0
abbrev wq_34 (d : Nat) (Q : ai_Q) := ai_WP cd_34 (ai_Ex sh_T d) Q 0 0
abbrev wq_35 (d : Nat) (Q : ai_Q) := ai_WP cd_35 (ai_Ex sh_T d) Q 0 0
abbrev wq_36 (d : Nat) (Q : ai_Q) := ai_WP cd_36 (ai_Ex sh_T d) Q 0 0
abbrev wq_37 (d : Nat) (Q : ai_Q) := ai_WP cd_37 (ai_Ex sh_T d) Q 0 0
abbrev wq_38 (d : Nat) (Q : ai_Q) := ai_WP cd_38 (ai_Ex sh_T d) Q 0 0
abbrev wq_39 (d : Nat) (Q : ai_Q) := ai_WP cd_39 (ai_Ex sh_T d) Q 0 0
abbrev wq_40 (d : Nat) (Q : ai_Q) := ai_WP cd_40 (ai_Ex sh_T d) Q 0 0
abbrev wq_41 (d : Nat) (Q : ai_Q) := ai_WP cd_41 (ai_Ex sh_T d) Q 0 0
abbrev wq_42 (d : Nat) (Q : ai_Q) := ai_WP cd_42 (ai_Ex sh_T d) Q 0 0
abbrev wq_43 (d : Nat) (Q : ai_Q) := ai_WP cd_43 (ai_Ex sh_T d) Q 0 0
abbrev wq_44 (d : Nat) (Q : ai_Q) := ai_WP cd_44 (ai_Ex sh_T d) Q 0 0
abbrev wq_45 (d : Nat) (Q : ai_Q) := ai_WP cd_45 (ai_Ex sh_T d) Q 0 0
abbrev wq_46 (d : Nat) (Q : ai_Q) := ai_WP cd_46 (ai_Ex sh_T d) Q 0 0
abbrev wq_47 (d : Nat) (Q : ai_Q) := ai_WP cd_47 (ai_Ex sh_T d) Q 0 0
abbrev wq_48 (d : Nat) (Q : ai_Q) := ai_WP cd_48 (ai_Ex sh_T d) Q 0 0
abbrev wq_49 (d : Nat) (Q : ai_Q) := ai_WP cd_49 (ai_Ex sh_T d) Q 0 0
abbrev wq_50 (d : Nat) (Q : ai_Q) := ai_WP cd_50 (ai_Ex sh_T d) Q 0 0
abbrev wq_51 (d : Nat) (Q : ai_Q) := ai_WP cd_51 (ai_Ex sh_T d) Q 0 0
abbrev wq_52 (d : Nat) (Q : ai_Q) := ai_WP cd_52 (ai_Ex sh_T d) Q 0 0
abbrev wq_53 (d : Nat) (Q : ai_Q) := ai_WP cd_53 (ai_Ex sh_T d) Q 0 0
abbrev wq_54 (d : Nat) (Q : ai_Q) := ai_WP cd_54 (ai_Ex sh_T d) Q 0 0
abbrev wq_55 (d : Nat) (Q : ai_Q) := ai_WP cd_55 (ai_Ex sh_T d) Q 0 0
abbrev wq_56 (d : Nat) (Q : ai_Q) := ai_WP cd_56 (ai_Ex sh_T d) Q 0 0
abbrev wq_57 (d : Nat) (Q : ai_Q) := ai_WP cd_57 (ai_Ex sh_T d) Q 0 0
abbrev wq_58 (d : Nat) (Q : ai_Q) := ai_WP cd_58 (ai_Ex sh_T d) Q 0 0
abbrev wq_59 (d : Nat) (Q : ai_Q) := ai_WP cd_59 (ai_Ex sh_T d) Q 0 0
abbrev wq_60 (d : Nat) (Q : ai_Q) := ai_WP cd_60 (ai_Ex sh_T d) Q 0 0
abbrev wq_61 (d : Nat) (Q : ai_Q) := ai_WP cd_61 (ai_Ex sh_T d) Q 0 0
abbrev wq_62 (d : Nat) (Q : ai_Q) := ai_WP cd_62 (ai_Ex sh_T d) Q 0 0
abbrev wq_63 (d : Nat) (Q : ai_Q) := ai_WP cd_63 (ai_Ex sh_T d) Q 0 0
abbrev wq_64 (d : Nat) (Q : ai_Q) := ai_WP cd_64 (ai_Ex sh_T d) Q 0 0
abbrev wq_65 (d : Nat) (Q : ai_Q) := ai_WP cd_65 (ai_Ex sh_T d) Q 0 0
abbrev wq_66 (d : Nat) (Q : ai_Q) := ai_WP cd_66 (ai_Ex sh_T d) Q 0 0
abbrev wq_67 (d : Nat) (Q : ai_Q) := ai_WP cd_67 (ai_Ex sh_T d) Q 0 0
abbrev wq_68 (d : Nat) (Q : ai_Q) := ai_WP cd_68 (ai_Ex sh_T d) Q 0 0
abbrev wq_69 (d : Nat) (Q : ai_Q) := ai_WP cd_69 (ai_Ex sh_T d) Q 0 0
abbrev wq_70 (d : Nat) (Q : ai_Q) := ai_WP cd_70 (ai_Ex sh_T d) Q 0 0
abbrev wq_71 (d : Nat) (Q : ai_Q) := ai_WP cd_71 (ai_Ex sh_T d) Q 0 0
abbrev wq_72 (d : Nat) (Q : ai_Q) := ai_WP cd_72 (ai_Ex sh_T d) Q 0 0
abbrev wq_73 (d : Nat) (Q : ai_Q) := ai_WP cd_73 (ai_Ex sh_T d) Q 0 0
abbrev wq_74 (d : Nat) (Q : ai_Q) := ai_WP cd_74 (ai_Ex sh_T d) Q 0 0
abbrev wq_75 (d : Nat) (Q : ai_Q) := ai_WP cd_75 (ai_Ex sh_T d) Q 0 0
abbrev wq_76 (d : Nat) (Q : ai_Q) := ai_WP cd_76 (ai_Ex sh_T d) Q 0 0
abbrev wq_77 (d : Nat) (Q : ai_Q) := ai_WP cd_77 (ai_Ex sh_T d) Q 0 0
abbrev wq_78 (d : Nat) (Q : ai_Q) := ai_WP cd_78 (ai_Ex sh_T d) Q 0 0
abbrev wq_79 (d : Nat) (Q : ai_Q) := ai_WP cd_79 (ai_Ex sh_T d) Q 0 0
abbrev wq_80 (d : Nat) (Q : ai_Q) := ai_WP cd_80 (ai_Ex sh_T d) Q 0 0
abbrev wq_81 (d : Nat) (Q : ai_Q) := ai_WP cd_81 (ai_Ex sh_T d) Q 0 0
abbrev wq_82 (d : Nat) (Q : ai_Q) := ai_WP cd_82 (ai_Ex sh_T d) Q 0 0
abbrev wq_83 (d : Nat) (Q : ai_Q) := ai_WP cd_83 (ai_Ex sh_T d) Q 0 0
abbrev wq_84 (d : Nat) (Q : ai_Q) := ai_WP cd_84 (ai_Ex sh_T d) Q 0 0
abbrev wq_85 (d : Nat) (Q : ai_Q) := ai_WP cd_85 (ai_Ex sh_T d) Q 0 0
abbrev wq_86 (d : Nat) (Q : ai_Q) := ai_WP cd_86 (ai_Ex sh_T d) Q 0 0
abbrev wq_87 (d : Nat) (Q : ai_Q) := ai_WP cd_87 (ai_Ex sh_T d) Q 0 0
abbrev wq_88 (d : Nat) (Q : ai_Q) := ai_WP cd_88 (ai_Ex sh_T d) Q 0 0
abbrev wq_89 (d : Nat) (Q : ai_Q) := ai_WP cd_89 (ai_Ex sh_T d) Q 0 0
abbrev wq_90 (d : Nat) (Q : ai_Q) := ai_WP cd_90 (ai_Ex sh_T d) Q 0 0
abbrev wq_91 (d : Nat) (Q : ai_Q) := ai_WP cd_91 (ai_Ex sh_T d) Q 0 0
abbrev wq_92 (d : Nat) (Q : ai_Q) := ai_WP cd_92 (ai_Ex sh_T d) Q 0 0
abbrev wq_93 (d : Nat) (Q : ai_Q) := ai_WP cd_93 (ai_Ex sh_T d) Q 0 0
abbrev wq_94 (d : Nat) (Q : ai_Q) := ai_WP cd_94 (ai_Ex sh_T d) Q 0 0
abbrev wq_95 (d : Nat) (Q : ai_Q) := ai_WP cd_95 (ai_Ex sh_T d) Q 0 0
abbrev wq_96 (d : Nat) (Q : ai_Q) := ai_WP cd_96 (ai_Ex sh_T d) Q 0 0
abbrev wq_97 (d : Nat) (Q : ai_Q) := ai_WP cd_97 (ai_Ex sh_T d) Q 0 0
abbrev wq_98 (d : Nat) (Q : ai_Q) := ai_WP cd_98 (ai_Ex sh_T d) Q 0 0
abbrev wq_99 (d : Nat) (Q : ai_Q) := ai_WP cd_99 (ai_Ex sh_T d) Q 0 0
abbrev wq_100 (d : Nat) (Q : ai_Q) := ai_WP cd_100 (ai_Ex sh_T d) Q 0 0
abbrev wq_101 (d : Nat) (Q : ai_Q) := ai_WP cd_101 (ai_Ex sh_T d) Q 0 0
abbrev wq_102 (d : Nat) (Q : ai_Q) := ai_WP cd_102 (ai_Ex sh_T d) Q 0 0
abbrev wq_103 (d : Nat) (Q : ai_Q) := ai_WP cd_103 (ai_Ex sh_T d) Q 0 0
abbrev wq_104 (d : Nat) (Q : ai_Q) := ai_WP cd_104 (ai_Ex sh_T d) Q 0 0
abbrev wq_105 (d : Nat) (Q : ai_Q) := ai_WP cd_105 (ai_Ex sh_T d) Q 0 0
abbrev wq_106 (d : Nat) (Q : ai_Q) := ai_WP cd_106 (ai_Ex sh_T d) Q 0 0
abbrev wq_107 (d : Nat) (Q : ai_Q) := ai_WP cd_107 (ai_Ex sh_T d) Q 0 0
abbrev wq_108 (d : Nat) (Q : ai_Q) := ai_WP cd_108 (ai_Ex sh_T d) Q 0 0
abbrev wq_109 (d : Nat) (Q : ai_Q) := ai_WP cd_109 (ai_Ex sh_T d) Q 0 0
abbrev wq_110 (d : Nat) (Q : ai_Q) := ai_WP cd_110 (ai_Ex sh_T d) Q 0 0
abbrev wq_111 (d : Nat) (Q : ai_Q) := ai_WP cd_111 (ai_Ex sh_T d) Q 0 0
abbrev wq_112 (d : Nat) (Q : ai_Q) := ai_WP cd_112 (ai_Ex sh_T d) Q 0 0
abbrev wq_113 (d : Nat) (Q : ai_Q) := ai_WP cd_113 (ai_Ex sh_T d) Q 0 0
abbrev wq_114 (d : Nat) (Q : ai_Q) := ai_WP cd_114 (ai_Ex sh_T d) Q 0 0
abbrev wq_115 (d : Nat) (Q : ai_Q) := ai_WP cd_115 (ai_Ex sh_T d) Q 0 0
abbrev wq_116 (d : Nat) (Q : ai_Q) := ai_WP cd_116 (ai_Ex sh_T d) Q 0 0
abbrev wq_117 (d : Nat) (Q : ai_Q) := ai_WP cd_117 (ai_Ex sh_T d) Q 0 0
abbrev wq_118 (d : Nat) (Q : ai_Q) := ai_WP cd_118 (ai_Ex sh_T d) Q 0 0
abbrev wq_119 (d : Nat) (Q : ai_Q) := ai_WP cd_119 (ai_Ex sh_T d) Q 0 0
abbrev wq_120 (d : Nat) (Q : ai_Q) := ai_WP cd_120 (ai_Ex sh_T d) Q 0 0
abbrev wq_121 (d : Nat) (Q : ai_Q) := ai_WP cd_121 (ai_Ex sh_T d) Q 0 0
abbrev wq_122 (d : Nat) (Q : ai_Q) := ai_WP cd_122 (ai_Ex sh_T d) Q 0 0
abbrev wq_123 (d : Nat) (Q : ai_Q) := ai_WP cd_123 (ai_Ex sh_T d) Q 0 0
abbrev wq_124 (d : Nat) (Q : ai_Q) := ai_WP cd_124 (ai_Ex sh_T d) Q 0 0
abbrev wq_125 (d : Nat) (Q : ai_Q) := ai_WP cd_125 (ai_Ex sh_T d) Q 0 0
abbrev wq_126 (d : Nat) (Q : ai_Q) := ai_WP cd_126 (ai_Ex sh_T d) Q 0 0
abbrev wq_127 (d : Nat) (Q : ai_Q) := ai_WP cd_127 (ai_Ex sh_T d) Q 0 0
abbrev wq_128 (d : Nat) (Q : ai_Q) := ai_WP cd_128 (ai_Ex sh_T d) Q 0 0
abbrev wq_129 (d : Nat) (Q : ai_Q) := ai_WP cd_129 (ai_Ex sh_T d) Q 0 0
abbrev wq_130 (d : Nat) (Q : ai_Q) := ai_WP cd_130 (ai_Ex sh_T d) Q 0 0
abbrev wq_131 (d : Nat) (Q : ai_Q) := ai_WP cd_131 (ai_Ex sh_T d) Q 0 0
abbrev wq_132 (d : Nat) (Q : ai_Q) := ai_WP cd_132 (ai_Ex sh_T d) Q 0 0
abbrev wq_133 (d : Nat) (Q : ai_Q) := ai_WP cd_133 (ai_Ex sh_T d) Q 0 0
abbrev wq_134 (d : Nat) (Q : ai_Q) := ai_WP cd_134 (ai_Ex sh_T d) Q 0 0
abbrev wq_135 (d : Nat) (Q : ai_Q) := ai_WP cd_135 (ai_Ex sh_T d) Q 0 0
abbrev wq_136 (d : Nat) (Q : ai_Q) := ai_WP cd_136 (ai_Ex sh_T d) Q 0 0
abbrev wq_137 (d : Nat) (Q : ai_Q) := ai_WP cd_137 (ai_Ex sh_T d) Q 0 0
abbrev wq_138 (d : Nat) (Q : ai_Q) := ai_WP cd_138 (ai_Ex sh_T d) Q 0 0
abbrev wq_139 (d : Nat) (Q : ai_Q) := ai_WP cd_139 (ai_Ex sh_T d) Q 0 0
abbrev wq_140 (d : Nat) (Q : ai_Q) := ai_WP cd_140 (ai_Ex sh_T d) Q 0 0
abbrev wq_141 (d : Nat) (Q : ai_Q) := ai_WP cd_141 (ai_Ex sh_T d) Q 0 0
abbrev wq_142 (d : Nat) (Q : ai_Q) := ai_WP cd_142 (ai_Ex sh_T d) Q 0 0
abbrev wq_143 (d : Nat) (Q : ai_Q) := ai_WP cd_143 (ai_Ex sh_T d) Q 0 0
abbrev wq_144 (d : Nat) (Q : ai_Q) := ai_WP cd_144 (ai_Ex sh_T d) Q 0 0
abbrev wq_145 (d : Nat) (Q : ai_Q) := ai_WP cd_145 (ai_Ex sh_T d) Q 0 0
abbrev wq_146 (d : Nat) (Q : ai_Q) := ai_WP cd_146 (ai_Ex sh_T d) Q 0 0
abbrev wq_147 (d : Nat) (Q : ai_Q) := ai_WP cd_147 (ai_Ex sh_T d) Q 0 0
abbrev wq_148 (d : Nat) (Q : ai_Q) := ai_WP cd_148 (ai_Ex sh_T d) Q 0 0
abbrev wq_149 (d : Nat) (Q : ai_Q) := ai_WP cd_149 (ai_Ex sh_T d) Q 0 0
abbrev wq_150 (d : Nat) (Q : ai_Q) := ai_WP cd_150 (ai_Ex sh_T d) Q 0 0
abbrev wq_151 (d : Nat) (Q : ai_Q) := ai_WP cd_151 (ai_Ex sh_T d) Q 0 0
abbrev wq_152 (d : Nat) (Q : ai_Q) := ai_WP cd_152 (ai_Ex sh_T d) Q 0 0
abbrev wq_153 (d : Nat) (Q : ai_Q) := ai_WP cd_153 (ai_Ex sh_T d) Q 0 0
abbrev wq_154 (d : Nat) (Q : ai_Q) := ai_WP cd_154 (ai_Ex sh_T d) Q 0 0
abbrev wq_155 (d : Nat) (Q : ai_Q) := ai_WP cd_155 (ai_Ex sh_T d) Q 0 0
abbrev wq_156 (d : Nat) (Q : ai_Q) := ai_WP cd_156 (ai_Ex sh_T d) Q 0 0
abbrev wq_157 (d : Nat) (Q : ai_Q) := ai_WP cd_157 (ai_Ex sh_T d) Q 0 0
abbrev wq_158 (d : Nat) (Q : ai_Q) := ai_WP cd_158 (ai_Ex sh_T d) Q 0 0
abbrev wq_159 (d : Nat) (Q : ai_Q) := ai_WP cd_159 (ai_Ex sh_T d) Q 0 0
abbrev wq_160 (d : Nat) (Q : ai_Q) := ai_WP cd_160 (ai_Ex sh_T d) Q 0 0
abbrev wq_161 (d : Nat) (Q : ai_Q) := ai_WP cd_161 (ai_Ex sh_T d) Q 0 0
abbrev wq_162 (d : Nat) (Q : ai_Q) := ai_WP cd_162 (ai_Ex sh_T d) Q 0 0
abbrev wq_163 (d : Nat) (Q : ai_Q) := ai_WP cd_163 (ai_Ex sh_T d) Q 0 0
abbrev wq_164 (d : Nat) (Q : ai_Q) := ai_WP cd_164 (ai_Ex sh_T d) Q 0 0
abbrev wq_165 (d : Nat) (Q : ai_Q) := ai_WP cd_165 (ai_Ex sh_T d) Q 0 0
abbrev wq_166 (d : Nat) (Q : ai_Q) := ai_WP cd_166 (ai_Ex sh_T d) Q 0 0
abbrev wq_167 (d : Nat) (Q : ai_Q) := ai_WP cd_167 (ai_Ex sh_T d) Q 0 0
abbrev wq_168 (d : Nat) (Q : ai_Q) := ai_WP cd_168 (ai_Ex sh_T d) Q 0 0
abbrev wq_169 (d : Nat) (Q : ai_Q) := ai_WP cd_169 (ai_Ex sh_T d) Q 0 0
abbrev wq_170 (d : Nat) (Q : ai_Q) := ai_WP cd_170 (ai_Ex sh_T d) Q 0 0
abbrev wq_171 (d : Nat) (Q : ai_Q) := ai_WP cd_171 (ai_Ex sh_T d) Q 0 0
abbrev wq_172 (d : Nat) (Q : ai_Q) := ai_WP cd_172 (ai_Ex sh_T d) Q 0 0
abbrev wq_173 (d : Nat) (Q : ai_Q) := ai_WP cd_173 (ai_Ex sh_T d) Q 0 0
abbrev wq_174 (d : Nat) (Q : ai_Q) := ai_WP cd_174 (ai_Ex sh_T d) Q 0 0
abbrev wq_175 (d : Nat) (Q : ai_Q) := ai_WP cd_175 (ai_Ex sh_T d) Q 0 0
abbrev wq_176 (d : Nat) (Q : ai_Q) := ai_WP cd_176 (ai_Ex sh_T d) Q 0 0
abbrev wq_177 (d : Nat) (Q : ai_Q) := ai_WP cd_177 (ai_Ex sh_T d) Q 0 0
abbrev wq_178 (d : Nat) (Q : ai_Q) := ai_WP cd_178 (ai_Ex sh_T d) Q 0 0
abbrev wq_179 (d : Nat) (Q : ai_Q) := ai_WP cd_179 (ai_Ex sh_T d) Q 0 0
abbrev wq_180 (d : Nat) (Q : ai_Q) := ai_WP cd_180 (ai_Ex sh_T d) Q 0 0
abbrev wq_181 (d : Nat) (Q : ai_Q) := ai_WP cd_181 (ai_Ex sh_T d) Q 0 0
abbrev wq_182 (d : Nat) (Q : ai_Q) := ai_WP cd_182 (ai_Ex sh_T d) Q 0 0
abbrev wq_183 (d : Nat) (Q : ai_Q) := ai_WP cd_183 (ai_Ex sh_T d) Q 0 0
abbrev wq_184 (d : Nat) (Q : ai_Q) := ai_WP cd_184 (ai_Ex sh_T d) Q 0 0
abbrev wq_185 (d : Nat) (Q : ai_Q) := ai_WP cd_185 (ai_Ex sh_T d) Q 0 0
abbrev wq_186 (d : Nat) (Q : ai_Q) := ai_WP cd_186 (ai_Ex sh_T d) Q 0 0
abbrev wq_187 (d : Nat) (Q : ai_Q) := ai_WP cd_187 (ai_Ex sh_T d) Q 0 0
abbrev wq_188 (d : Nat) (Q : ai_Q) := ai_WP cd_188 (ai_Ex sh_T d) Q 0 0
abbrev wq_189 (d : Nat) (Q : ai_Q) := ai_WP cd_189 (ai_Ex sh_T d) Q 0 0
abbrev wq_190 (d : Nat) (Q : ai_Q) := ai_WP cd_190 (ai_Ex sh_T d) Q 0 0
abbrev wq_191 (d : Nat) (Q : ai_Q) := ai_WP cd_191 (ai_Ex sh_T d) Q 0 0
abbrev wq_192 (d : Nat) (Q : ai_Q) := ai_WP cd_192 (ai_Ex sh_T d) Q 0 0
abbrev wq_193 (d : Nat) (Q : ai_Q) := ai_WP cd_193 (ai_Ex sh_T d) Q 0 0
abbrev wq_194 (d : Nat) (Q : ai_Q) := ai_WP cd_194 (ai_Ex sh_T d) Q 0 0
abbrev wq_195 (d : Nat) (Q : ai_Q) := ai_WP cd_195 (ai_Ex sh_T d) Q 0 0
abbrev wq_196 (d : Nat) (Q : ai_Q) := ai_WP cd_196 (ai_Ex sh_T d) Q 0 0
abbrev wq_197 (d : Nat) (Q : ai_Q) := ai_WP cd_197 (ai_Ex sh_T d) Q 0 0
abbrev wq_198 (d : Nat) (Q : ai_Q) := ai_WP cd_198 (ai_Ex sh_T d) Q 0 0
abbrev wq_199 (d : Nat) (Q : ai_Q) := ai_WP cd_199 (ai_Ex sh_T d) Q 0 0
abbrev wq_200 (d : Nat) (Q : ai_Q) := ai_WP cd_200 (ai_Ex sh_T d) Q 0 0
abbrev wq_201 (d : Nat) (Q : ai_Q) := ai_WP cd_201 (ai_Ex sh_T d) Q 0 0
abbrev wq_202 (d : Nat) (Q : ai_Q) := ai_WP cd_202 (ai_Ex sh_T d) Q 0 0
abbrev wq_203 (d : Nat) (Q : ai_Q) := ai_WP cd_203 (ai_Ex sh_T d) Q 0 0
abbrev wq_204 (d : Nat) (Q : ai_Q) := ai_WP cd_204 (ai_Ex sh_T d) Q 0 0
abbrev wq_205 (d : Nat) (Q : ai_Q) := ai_WP cd_205 (ai_Ex sh_T d) Q 0 0
abbrev wq_206 (d : Nat) (Q : ai_Q) := ai_WP cd_206 (ai_Ex sh_T d) Q 0 0
abbrev wq_207 (d : Nat) (Q : ai_Q) := ai_WP cd_207 (ai_Ex sh_T d) Q 0 0
abbrev wq_208 (d : Nat) (Q : ai_Q) := ai_WP cd_208 (ai_Ex sh_T d) Q 0 0
abbrev wq_209 (d : Nat) (Q : ai_Q) := ai_WP cd_209 (ai_Ex sh_T d) Q 0 0
abbrev wq_210 (d : Nat) (Q : ai_Q) := ai_WP cd_210 (ai_Ex sh_T d) Q 0 0
abbrev wq_211 (d : Nat) (Q : ai_Q) := ai_WP cd_211 (ai_Ex sh_T d) Q 0 0
abbrev wq_212 (d : Nat) (Q : ai_Q) := ai_WP cd_212 (ai_Ex sh_T d) Q 0 0
abbrev wq_213 (d : Nat) (Q : ai_Q) := ai_WP cd_213 (ai_Ex sh_T d) Q 0 0
abbrev wq_214 (d : Nat) (Q : ai_Q) := ai_WP cd_214 (ai_Ex sh_T d) Q 0 0
abbrev wq_215 (d : Nat) (Q : ai_Q) := ai_WP cd_215 (ai_Ex sh_T d) Q 0 0
abbrev wq_216 (d : Nat) (Q : ai_Q) := ai_WP cd_216 (ai_Ex sh_T d) Q 0 0
abbrev wq_217 (d : Nat) (Q : ai_Q) := ai_WP cd_217 (ai_Ex sh_T d) Q 0 0
abbrev wq_218 (d : Nat) (Q : ai_Q) := ai_WP cd_218 (ai_Ex sh_T d) Q 0 0
abbrev wq_219 (d : Nat) (Q : ai_Q) := ai_WP cd_219 (ai_Ex sh_T d) Q 0 0
abbrev wq_220 (d : Nat) (Q : ai_Q) := ai_WP cd_220 (ai_Ex sh_T d) Q 0 0
abbrev wq_221 (d : Nat) (Q : ai_Q) := ai_WP cd_221 (ai_Ex sh_T d) Q 0 0
abbrev wq_222 (d : Nat) (Q : ai_Q) := ai_WP cd_222 (ai_Ex sh_T d) Q 0 0
abbrev wq_223 (d : Nat) (Q : ai_Q) := ai_WP cd_223 (ai_Ex sh_T d) Q 0 0
abbrev wq_224 (d : Nat) (Q : ai_Q) := ai_WP cd_224 (ai_Ex sh_T d) Q 0 0
abbrev wq_225 (d : Nat) (Q : ai_Q) := ai_WP cd_225 (ai_Ex sh_T d) Q 0 0
abbrev wq_226 (d : Nat) (Q : ai_Q) := ai_WP cd_226 (ai_Ex sh_T d) Q 0 0
abbrev wq_227 (d : Nat) (Q : ai_Q) := ai_WP cd_227 (ai_Ex sh_T d) Q 0 0
abbrev wq_228 (d : Nat) (Q : ai_Q) := ai_WP cd_228 (ai_Ex sh_T d) Q 0 0
abbrev wq_229 (d : Nat) (Q : ai_Q) := ai_WP cd_229 (ai_Ex sh_T d) Q 0 0
abbrev wq_230 (d : Nat) (Q : ai_Q) := ai_WP cd_230 (ai_Ex sh_T d) Q 0 0
abbrev wq_231 (d : Nat) (Q : ai_Q) := ai_WP cd_231 (ai_Ex sh_T d) Q 0 0
abbrev wq_232 (d : Nat) (Q : ai_Q) := ai_WP cd_232 (ai_Ex sh_T d) Q 0 0
abbrev wq_233 (d : Nat) (Q : ai_Q) := ai_WP cd_233 (ai_Ex sh_T d) Q 0 0
abbrev wq_234 (d : Nat) (Q : ai_Q) := ai_WP cd_234 (ai_Ex sh_T d) Q 0 0
abbrev wq_235 (d : Nat) (Q : ai_Q) := ai_WP cd_235 (ai_Ex sh_T d) Q 0 0
abbrev wq_236 (d : Nat) (Q : ai_Q) := ai_WP cd_236 (ai_Ex sh_T d) Q 0 0
abbrev wq_237 (d : Nat) (Q : ai_Q) := ai_WP cd_237 (ai_Ex sh_T d) Q 0 0
abbrev wq_238 (d : Nat) (Q : ai_Q) := ai_WP cd_238 (ai_Ex sh_T d) Q 0 0
abbrev wq_239 (d : Nat) (Q : ai_Q) := ai_WP cd_239 (ai_Ex sh_T d) Q 0 0
abbrev wq_240 (d : Nat) (Q : ai_Q) := ai_WP cd_240 (ai_Ex sh_T d) Q 0 0
abbrev wq_241 (d : Nat) (Q : ai_Q) := ai_WP cd_241 (ai_Ex sh_T d) Q 0 0
abbrev wq_242 (d : Nat) (Q : ai_Q) := ai_WP cd_242 (ai_Ex sh_T d) Q 0 0
abbrev wq_243 (d : Nat) (Q : ai_Q) := ai_WP cd_243 (ai_Ex sh_T d) Q 0 0
abbrev wq_244 (d : Nat) (Q : ai_Q) := ai_WP cd_244 (ai_Ex sh_T d) Q 0 0
abbrev wq_245 (d : Nat) (Q : ai_Q) := ai_WP cd_245 (ai_Ex sh_T d) Q 0 0
abbrev wq_246 (d : Nat) (Q : ai_Q) := ai_WP cd_246 (ai_Ex sh_T d) Q 0 0
abbrev wq_247 (d : Nat) (Q : ai_Q) := ai_WP cd_247 (ai_Ex sh_T d) Q 0 0
abbrev wq_248 (d : Nat) (Q : ai_Q) := ai_WP cd_248 (ai_Ex sh_T d) Q 0 0
abbrev wq_249 (d : Nat) (Q : ai_Q) := ai_WP cd_249 (ai_Ex sh_T d) Q 0 0
abbrev wq_250 (d : Nat) (Q : ai_Q) := ai_WP cd_250 (ai_Ex sh_T d) Q 0 0
abbrev wq_251 (d : Nat) (Q : ai_Q) := ai_WP cd_251 (ai_Ex sh_T d) Q 0 0
abbrev wq_252 (d : Nat) (Q : ai_Q) := ai_WP cd_252 (ai_Ex sh_T d) Q 0 0
abbrev wq_253 (d : Nat) (Q : ai_Q) := ai_WP cd_253 (ai_Ex sh_T d) Q 0 0
abbrev wq_254 (d : Nat) (Q : ai_Q) := ai_WP cd_254 (ai_Ex sh_T d) Q 0 0
abbrev wq_255 (d : Nat) (Q : ai_Q) := ai_WP cd_255 (ai_Ex sh_T d) Q 0 0
abbrev wq_256 (d : Nat) (Q : ai_Q) := ai_WP cd_256 (ai_Ex sh_T d) Q 0 0
abbrev wq_257 (d : Nat) (Q : ai_Q) := ai_WP cd_257 (ai_Ex sh_T d) Q 0 0
abbrev wq_258 (d : Nat) (Q : ai_Q) := ai_WP cd_258 (ai_Ex sh_T d) Q 0 0
abbrev wq_259 (d : Nat) (Q : ai_Q) := ai_WP cd_259 (ai_Ex sh_T d) Q 0 0
abbrev wq_260 (d : Nat) (Q : ai_Q) := ai_WP cd_260 (ai_Ex sh_T d) Q 0 0
abbrev wq_261 (d : Nat) (Q : ai_Q) := ai_WP cd_261 (ai_Ex sh_T d) Q 0 0
abbrev wq_262 (d : Nat) (Q : ai_Q) := ai_WP cd_262 (ai_Ex sh_T d) Q 0 0
abbrev wq_263 (d : Nat) (Q : ai_Q) := ai_WP cd_263 (ai_Ex sh_T d) Q 0 0
abbrev wq_264 (d : Nat) (Q : ai_Q) := ai_WP cd_264 (ai_Ex sh_T d) Q 0 0
abbrev wq_265 (d : Nat) (Q : ai_Q) := ai_WP cd_265 (ai_Ex sh_T d) Q 0 0
abbrev wq_266 (d : Nat) (Q : ai_Q) := ai_WP cd_266 (ai_Ex sh_T d) Q 0 0
abbrev wq_267 (d : Nat) (Q : ai_Q) := ai_WP cd_267 (ai_Ex sh_T d) Q 0 0
abbrev wq_268 (d : Nat) (Q : ai_Q) := ai_WP cd_268 (ai_Ex sh_T d) Q 0 0
abbrev wq_269 (d : Nat) (Q : ai_Q) := ai_WP cd_269 (ai_Ex sh_T d) Q 0 0
abbrev wq_270 (d : Nat) (Q : ai_Q) := ai_WP cd_270 (ai_Ex sh_T d) Q 0 0
abbrev wq_271 (d : Nat) (Q : ai_Q) := ai_WP cd_271 (ai_Ex sh_T d) Q 0 0
abbrev wq_272 (d : Nat) (Q : ai_Q) := ai_WP cd_272 (ai_Ex sh_T d) Q 0 0
abbrev wq_273 (d : Nat) (Q : ai_Q) := ai_WP cd_273 (ai_Ex sh_T d) Q 0 0
abbrev wq_274 (d : Nat) (Q : ai_Q) := ai_WP cd_274 (ai_Ex sh_T d) Q 0 0
abbrev wq_275 (d : Nat) (Q : ai_Q) := ai_WP cd_275 (ai_Ex sh_T d) Q 0 0
abbrev wq_276 (d : Nat) (Q : ai_Q) := ai_WP cd_276 (ai_Ex sh_T d) Q 0 0
abbrev wq_277 (d : Nat) (Q : ai_Q) := ai_WP cd_277 (ai_Ex sh_T d) Q 0 0
abbrev wq_278 (d : Nat) (Q : ai_Q) := ai_WP cd_278 (ai_Ex sh_T d) Q 0 0
abbrev wq_279 (d : Nat) (Q : ai_Q) := ai_WP cd_279 (ai_Ex sh_T d) Q 0 0
abbrev wq_280 (d : Nat) (Q : ai_Q) := ai_WP cd_280 (ai_Ex sh_T d) Q 0 0
abbrev wq_281 (d : Nat) (Q : ai_Q) := ai_WP cd_281 (ai_Ex sh_T d) Q 0 0
abbrev wq_282 (d : Nat) (Q : ai_Q) := ai_WP cd_282 (ai_Ex sh_T d) Q 0 0
abbrev wq_283 (d : Nat) (Q : ai_Q) := ai_WP cd_283 (ai_Ex sh_T d) Q 0 0
abbrev wq_284 (d : Nat) (Q : ai_Q) := ai_WP cd_284 (ai_Ex sh_T d) Q 0 0
abbrev wq_285 (d : Nat) (Q : ai_Q) := ai_WP cd_285 (ai_Ex sh_T d) Q 0 0
abbrev wq_286 (d : Nat) (Q : ai_Q) := ai_WP cd_286 (ai_Ex sh_T d) Q 0 0
abbrev wq_287 (d : Nat) (Q : ai_Q) := ai_WP cd_287 (ai_Ex sh_T d) Q 0 0
abbrev wq_288 (d : Nat) (Q : ai_Q) := ai_WP cd_288 (ai_Ex sh_T d) Q 0 0
abbrev wq_289 (d : Nat) (Q : ai_Q) := ai_WP cd_289 (ai_Ex sh_T d) Q 0 0
abbrev wq_290 (d : Nat) (Q : ai_Q) := ai_WP cd_290 (ai_Ex sh_T d) Q 0 0
abbrev wq_291 (d : Nat) (Q : ai_Q) := ai_WP cd_291 (ai_Ex sh_T d) Q 0 0
abbrev wq_292 (d : Nat) (Q : ai_Q) := ai_WP cd_292 (ai_Ex sh_T d) Q 0 0
abbrev wq_293 (d : Nat) (Q : ai_Q) := ai_WP cd_293 (ai_Ex sh_T d) Q 0 0
abbrev wq_294 (d : Nat) (Q : ai_Q) := ai_WP cd_294 (ai_Ex sh_T d) Q 0 0
abbrev wq_295 (d : Nat) (Q : ai_Q) := ai_WP cd_295 (ai_Ex sh_T d) Q 0 0
abbrev wq_296 (d : Nat) (Q : ai_Q) := ai_WP cd_296 (ai_Ex sh_T d) Q 0 0
abbrev wq_297 (d : Nat) (Q : ai_Q) := ai_WP cd_297 (ai_Ex sh_T d) Q 0 0
abbrev wq_298 (d : Nat) (Q : ai_Q) := ai_WP cd_298 (ai_Ex sh_T d) Q 0 0
abbrev wq_299 (d : Nat) (Q : ai_Q) := ai_WP cd_299 (ai_Ex sh_T d) Q 0 0
abbrev wq_300 (d : Nat) (Q : ai_Q) := ai_WP cd_300 (ai_Ex sh_T d) Q 0 0
abbrev wq_301 (d : Nat) (Q : ai_Q) := ai_WP cd_301 (ai_Ex sh_T d) Q 0 0
abbrev wq_302 (d : Nat) (Q : ai_Q) := ai_WP cd_302 (ai_Ex sh_T d) Q 0 0
abbrev wq_303 (d : Nat) (Q : ai_Q) := ai_WP cd_303 (ai_Ex sh_T d) Q 0 0
abbrev wq_304 (d : Nat) (Q : ai_Q) := ai_WP cd_304 (ai_Ex sh_T d) Q 0 0
abbrev wq_305 (d : Nat) (Q : ai_Q) := ai_WP cd_305 (ai_Ex sh_T d) Q 0 0
abbrev wq_306 (d : Nat) (Q : ai_Q) := ai_WP cd_306 (ai_Ex sh_T d) Q 0 0
abbrev wq_307 (d : Nat) (Q : ai_Q) := ai_WP cd_307 (ai_Ex sh_T d) Q 0 0
abbrev wq_308 (d : Nat) (Q : ai_Q) := ai_WP cd_308 (ai_Ex sh_T d) Q 0 0
abbrev wq_309 (d : Nat) (Q : ai_Q) := ai_WP cd_309 (ai_Ex sh_T d) Q 0 0
abbrev wq_310 (d : Nat) (Q : ai_Q) := ai_WP cd_310 (ai_Ex sh_T d) Q 0 0
abbrev wq_311 (d : Nat) (Q : ai_Q) := ai_WP cd_311 (ai_Ex sh_T d) Q 0 0
abbrev wq_312 (d : Nat) (Q : ai_Q) := ai_WP cd_312 (ai_Ex sh_T d) Q 0 0
abbrev wq_313 (d : Nat) (Q : ai_Q) := ai_WP cd_313 (ai_Ex sh_T d) Q 0 0
abbrev wq_314 (d : Nat) (Q : ai_Q) := ai_WP cd_314 (ai_Ex sh_T d) Q 0 0
abbrev wq_315 (d : Nat) (Q : ai_Q) := ai_WP cd_315 (ai_Ex sh_T d) Q 0 0
abbrev wq_316 (d : Nat) (Q : ai_Q) := ai_WP cd_316 (ai_Ex sh_T d) Q 0 0
abbrev wq_317 (d : Nat) (Q : ai_Q) := ai_WP cd_317 (ai_Ex sh_T d) Q 0 0
abbrev wq_318 (d : Nat) (Q : ai_Q) := ai_WP cd_318 (ai_Ex sh_T d) Q 0 0
abbrev wq_319 (d : Nat) (Q : ai_Q) := ai_WP cd_319 (ai_Ex sh_T d) Q 0 0
abbrev wq_320 (d : Nat) (Q : ai_Q) := ai_WP cd_320 (ai_Ex sh_T d) Q 0 0
abbrev wq_321 (d : Nat) (Q : ai_Q) := ai_WP cd_321 (ai_Ex sh_T d) Q 0 0
abbrev wq_322 (d : Nat) (Q : ai_Q) := ai_WP cd_322 (ai_Ex sh_T d) Q 0 0
abbrev wq_323 (d : Nat) (Q : ai_Q) := ai_WP cd_323 (ai_Ex sh_T d) Q 0 0
abbrev wq_324 (d : Nat) (Q : ai_Q) := ai_WP cd_324 (ai_Ex sh_T d) Q 0 0
abbrev wq_325 (d : Nat) (Q : ai_Q) := ai_WP cd_325 (ai_Ex sh_T d) Q 0 0
abbrev wq_326 (d : Nat) (Q : ai_Q) := ai_WP cd_326 (ai_Ex sh_T d) Q 0 0
abbrev wq_327 (d : Nat) (Q : ai_Q) := ai_WP cd_327 (ai_Ex sh_T d) Q 0 0
abbrev wq_328 (d : Nat) (Q : ai_Q) := ai_WP cd_328 (ai_Ex sh_T d) Q 0 0
abbrev wq_329 (d : Nat) (Q : ai_Q) := ai_WP cd_329 (ai_Ex sh_T d) Q 0 0
abbrev wq_330 (d : Nat) (Q : ai_Q) := ai_WP cd_330 (ai_Ex sh_T d) Q 0 0
abbrev wq_331 (d : Nat) (Q : ai_Q) := ai_WP cd_331 (ai_Ex sh_T d) Q 0 0
abbrev wq_332 (d : Nat) (Q : ai_Q) := ai_WP cd_332 (ai_Ex sh_T d) Q 0 0
abbrev wq_333 (d : Nat) (Q : ai_Q) := ai_WP cd_333 (ai_Ex sh_T d) Q 0 0
abbrev wq_334 (d : Nat) (Q : ai_Q) := ai_WP cd_334 (ai_Ex sh_T d) Q 0 0
abbrev wq_335 (d : Nat) (Q : ai_Q) := ai_WP cd_335 (ai_Ex sh_T d) Q 0 0
abbrev wq_336 (d : Nat) (Q : ai_Q) := ai_WP cd_336 (ai_Ex sh_T d) Q 0 0
abbrev wq_337 (d : Nat) (Q : ai_Q) := ai_WP cd_337 (ai_Ex sh_T d) Q 0 0
abbrev wq_338 (d : Nat) (Q : ai_Q) := ai_WP cd_338 (ai_Ex sh_T d) Q 0 0
abbrev wq_339 (d : Nat) (Q : ai_Q) := ai_WP cd_339 (ai_Ex sh_T d) Q 0 0
abbrev wq_340 (d : Nat) (Q : ai_Q) := ai_WP cd_340 (ai_Ex sh_T d) Q 0 0
abbrev wq_341 (d : Nat) (Q : ai_Q) := ai_WP cd_341 (ai_Ex sh_T d) Q 0 0
abbrev wq_342 (d : Nat) (Q : ai_Q) := ai_WP cd_342 (ai_Ex sh_T d) Q 0 0
abbrev wq_343 (d : Nat) (Q : ai_Q) := ai_WP cd_343 (ai_Ex sh_T d) Q 0 0
abbrev wq_344 (d : Nat) (Q : ai_Q) := ai_WP cd_344 (ai_Ex sh_T d) Q 0 0
abbrev wq_345 (d : Nat) (Q : ai_Q) := ai_WP cd_345 (ai_Ex sh_T d) Q 0 0
abbrev wq_346 (d : Nat) (Q : ai_Q) := ai_WP cd_346 (ai_Ex sh_T d) Q 0 0
abbrev wq_347 (d : Nat) (Q : ai_Q) := ai_WP cd_347 (ai_Ex sh_T d) Q 0 0
abbrev wq_348 (d : Nat) (Q : ai_Q) := ai_WP cd_348 (ai_Ex sh_T d) Q 0 0
abbrev wq_349 (d : Nat) (Q : ai_Q) := ai_WP cd_349 (ai_Ex sh_T d) Q 0 0
abbrev wq_350 (d : Nat) (Q : ai_Q) := ai_WP cd_350 (ai_Ex sh_T d) Q 0 0
abbrev wq_351 (d : Nat) (Q : ai_Q) := ai_WP cd_351 (ai_Ex sh_T d) Q 0 0
abbrev wq_352 (d : Nat) (Q : ai_Q) := ai_WP cd_352 (ai_Ex sh_T d) Q 0 0
abbrev wq_353 (d : Nat) (Q : ai_Q) := ai_WP cd_353 (ai_Ex sh_T d) Q 0 0
abbrev wq_354 (d : Nat) (Q : ai_Q) := ai_WP cd_354 (ai_Ex sh_T d) Q 0 0
abbrev wq_355 (d : Nat) (Q : ai_Q) := ai_WP cd_355 (ai_Ex sh_T d) Q 0 0
abbrev wq_356 (d : Nat) (Q : ai_Q) := ai_WP cd_356 (ai_Ex sh_T d) Q 0 0
abbrev wq_357 (d : Nat) (Q : ai_Q) := ai_WP cd_357 (ai_Ex sh_T d) Q 0 0
abbrev wq_358 (d : Nat) (Q : ai_Q) := ai_WP cd_358 (ai_Ex sh_T d) Q 0 0
abbrev wq_L (d : Nat) (Q : ai_Q) := ai_WP cd_L (ai_Ex sh_T d) Q 126 102108
