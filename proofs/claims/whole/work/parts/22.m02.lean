/- FelledHasLostLaw.law([I)Z -/
def f_270_23  : Nat → Nat → Nat → Nat → Nat → Int32 → xH → Option ((xH) ⊕ (Int32 × xH))
  | 0, _, _, _, _, _, _ => none
  | n + 1, a0, a1, a2, a3, a4, h =>
  (pLen h a0).bind fun x1 =>
  (if (x1 - 5) < a4 then
  some (.inl (h))
  else
  (pAi h a0 a4).bind fun x3 =>
  (if (x3 &&& 63) = 0 then
  (pAi h a0 (a4 + 1)).bind fun x48 =>
  (pG (pIs h a1 11)).bind fun _ =>
  (f_105 a1 x48 h).bind fun (x51, h50) =>
  (pAi h50 a0 (a4 + 1)).bind fun x52 =>
  (pG (pIs h50 a2 12)).bind fun _ =>
  (f_171 a2 x52 h50).bind fun (x55, h54) =>
  (if x51 = x55 then
  f_270_23 n a0 a1 a2 a3 (a4 + 5) h54
  else
  (pZ 0 h54).bind fun q57 => some (.inr q57))
  else
  if (x3 &&& 63) = 1 then
  (pAi h a0 (a4 + 1)).bind fun x58 =>
  (pG (pIs h a1 11)).bind fun _ =>
  (f_106 a1 x58 h).bind fun (x61, h60) =>
  (pAi h60 a0 (a4 + 1)).bind fun x62 =>
  (pG (pIs h60 a2 12)).bind fun _ =>
  (f_172 a2 x62 h60).bind fun (x65, h64) =>
  (if x61 = x65 then
  f_270_23 n a0 a1 a2 a3 (a4 + 5) h64
  else
  (pZ 0 h64).bind fun q67 => some (.inr q67))
  else
  if (x3 &&& 63) = 2 then
  (pG (pIs h a1 11)).bind fun _ =>
  (f_107 a1 h).bind fun (x70, h69) =>
  (pG (pIs h69 a2 12)).bind fun _ =>
  (f_179 a2 h69).bind fun (x73, h72) =>
  (if x70 = x73 then
  f_270_23 n a0 a1 a2 a3 (a4 + 5) h72
  else
  (pZ 0 h72).bind fun q75 => some (.inr q75))
  else
  if (x3 &&& 63) = 3 then
  (pG (pIs h a1 11)).bind fun _ =>
  (f_108 a1 h).bind fun (x78, h77) =>
  (pG (pIs h77 a2 12)).bind fun _ =>
  (f_184 a2 h77).bind fun (x81, h80) =>
  (if x78 = x81 then
  f_270_23 n a0 a1 a2 a3 (a4 + 5) h80
  else
  (pZ 0 h80).bind fun q83 => some (.inr q83))
  else
  if (x3 &&& 63) = 4 then
  (pG (pIs h a1 11)).bind fun _ =>
  (f_109 a1 h).bind fun (x86, h85) =>
  (pG (pIs h85 a2 12)).bind fun _ =>
  (f_180 a2 h85).bind fun (x89, h88) =>
  (if x86 = x89 then
  f_270_23 n a0 a1 a2 a3 (a4 + 5) h88
  else
  (pZ 0 h88).bind fun q91 => some (.inr q91))
  else
  if (x3 &&& 63) = 5 then
  (pAi h a0 (a4 + 1)).bind fun x92 =>
  (pAi h a0 (a4 + 2)).bind fun x93 =>
  (pG (pIs h a1 11)).bind fun _ =>
  (f_111 a1 x92 x93 h).bind fun (q95, h96) =>
  (pCau (some (xOi q95)) a3 h96).bind fun (x97, h98) =>
  (pAi h98 a0 (a4 + 1)).bind fun x99 =>
  (pAi h98 a0 (a4 + 2)).bind fun x100 =>
  (pG (pIs h98 a2 12)).bind fun _ =>
  (f_189 a2 x99 x100 h98).bind fun (x103, h102) =>
  (pG (pIs h102 a2 12)).bind fun _ =>
  (f_160 a2 h102).bind fun (x106, h105) =>
  (if x106 = x97 then
  (if x97 = 0 then
  (pAl h105 a3 0).bind fun x109 =>
  (if (lg_cmp x109 ((x103 : Int32).toInt64)) = 0 then
  f_270_23 n a0 a1 a2 a3 (a4 + 5) h105
  else
  (pZ 0 h105).bind fun q111 => some (.inr q111))
  else
  f_270_23 n a0 a1 a2 a3 (a4 + 5) h105)
  else
  (pZ 0 h105).bind fun q112 => some (.inr q112))
  else
  if (x3 &&& 63) = 6 then
  (pAi h a0 (a4 + 1)).bind fun x113 =>
  (pAi h a0 (a4 + 2)).bind fun x114 =>
  (pG (pIs h a1 11)).bind fun _ =>
  (f_113 a1 x113 x114 h).bind fun (q116, h117) =>
  (pCau (some (xOi q116)) a3 h117).bind fun (x118, h119) =>
  (pAi h119 a0 (a4 + 1)).bind fun x120 =>
  (pAi h119 a0 (a4 + 2)).bind fun x121 =>
  (pG (pIs h119 a2 12)).bind fun _ =>
  (f_191 a2 x120 x121 h119).bind fun (x124, h123) =>
  (pG (pIs h123 a2 12)).bind fun _ =>
  (f_160 a2 h123).bind fun (x127, h126) =>
  (if x127 = x118 then
  (if x118 = 0 then
  (pAl h126 a3 0).bind fun x130 =>
  (if (lg_cmp x130 ((x124 : Int32).toInt64)) = 0 then
  f_270_23 n a0 a1 a2 a3 (a4 + 5) h126
  else
  (pZ 0 h126).bind fun q132 => some (.inr q132))
  else
  f_270_23 n a0 a1 a2 a3 (a4 + 5) h126)
  else
  (pZ 0 h126).bind fun q133 => some (.inr q133))
  else
  if (x3 &&& 63) = 7 then
  (pAi h a0 (a4 + 1)).bind fun x134 =>
  (pAi h a0 (a4 + 2)).bind fun x135 =>
  (pG (pIs h a1 11)).bind fun _ =>
  (f_114 a1 x134 x135 h).bind fun (x138, h137) =>
  (pAi h137 a0 (a4 + 1)).bind fun x139 =>
  (pAi h137 a0 (a4 + 2)).bind fun x140 =>
  (pG (pIs h137 a2 12)).bind fun _ =>
  (f_192 a2 x139 x140 h137).bind fun (x143, h142) =>
  (if x138 = x143 then
  f_270_23 n a0 a1 a2 a3 (a4 + 5) h142
  else
  (pZ 0 h142).bind fun q145 => some (.inr q145))
  else
  if (x3 &&& 63) = 8 then
  (pAi h a0 (a4 + 1)).bind fun x146 =>
  (pAi h a0 (a4 + 2)).bind fun x147 =>
  (pAi h a0 (a4 + 3)).bind fun x148 =>
  (pAi h a0 (a4 + 4)).bind fun x149 =>
  (pG (pIs h a1 11)).bind fun _ =>
  (f_115 a1 x146 x147 x148 x149 h).bind fun (x152, h151) =>
  (pAi h151 a0 (a4 + 1)).bind fun x153 =>
  (pAi h151 a0 (a4 + 2)).bind fun x154 =>
  (pAi h151 a0 (a4 + 3)).bind fun x155 =>
  (pAi h151 a0 (a4 + 4)).bind fun x156 =>
  (pG (pIs h151 a2 12)).bind fun _ =>
  (f_193 a2 x153 x154 x155 x156 h151).bind fun (x159, h158) =>
  (if x152 = x159 then
  f_270_23 n a0 a1 a2 a3 (a4 + 5) h158
  else
  (pZ 0 h158).bind fun q161 => some (.inr q161))
  else
  if (x3 &&& 63) = 9 then
  (pAi h a0 (a4 + 1)).bind fun x162 =>
  (pAi h a0 (a4 + 2)).bind fun x163 =>
  (pG (pIs h a1 11)).bind fun _ =>
  (f_118 a1 x162 x163 h).bind fun (x166, h165) =>
  (pAi h165 a0 (a4 + 1)).bind fun x167 =>
  (pAi h165 a0 (a4 + 2)).bind fun x168 =>
  (pG (pIs h165 a2 12)).bind fun _ =>
  (f_194 a2 x167 x168 h165).bind fun (x171, h170) =>
  (if x166 = x171 then
  f_270_23 n a0 a1 a2 a3 (a4 + 5) h170
  else
  (pZ 0 h170).bind fun q173 => some (.inr q173))
  else
  if (x3 &&& 63) = 10 then
  (pAi h a0 (a4 + 1)).bind fun x174 =>
  (pAi h a0 (a4 + 2)).bind fun x175 =>
  (pG (pIs h a1 11)).bind fun _ =>
  (f_119 a1 x174 x175 h).bind fun (x178, h177) =>
  (pAi h177 a0 (a4 + 1)).bind fun x179 =>
  (pAi h177 a0 (a4 + 2)).bind fun x180 =>
  (pG (pIs h177 a2 12)).bind fun _ =>
  (f_195 a2 x179 x180 h177).bind fun (x183, h182) =>
  (if x178 = x183 then
  f_270_23 n a0 a1 a2 a3 (a4 + 5) h182
  else
  (pZ 0 h182).bind fun q185 => some (.inr q185))
  else
  if (x3 &&& 63) = 11 then
  (pAi h a0 (a4 + 1)).bind fun x186 =>
  (pG (pIs h a1 11)).bind fun _ =>
  (f_120 a1 x186 h).bind fun (x189, h188) =>
  (pAi h188 a0 (a4 + 1)).bind fun x190 =>
  (pG (pIs h188 a2 12)).bind fun _ =>
  (f_196 a2 x190 h188).bind fun (x193, h192) =>
  (if x189 = x193 then
  f_270_23 n a0 a1 a2 a3 (a4 + 5) h192
  else
  (pZ 0 h192).bind fun q195 => some (.inr q195))
  else
  if (x3 &&& 63) = 12 then
  (pG (pIs h a1 11)).bind fun _ =>
  (f_121 a1 h).bind fun (x198, h197) =>
  (pG (pIs h197 a2 12)).bind fun _ =>
  (f_197 a2 h197).bind fun (x201, h200) =>
  (if x198 = x201 then
  f_270_23 n a0 a1 a2 a3 (a4 + 5) h200
  else
  (pZ 0 h200).bind fun q203 => some (.inr q203))
  else
  if (x3 &&& 63) = 13 then
  (pG (pIs h a1 11)).bind fun _ =>
  (f_122 a1 h).bind fun (x206, h205) =>
  (pG (pIs h205 a2 12)).bind fun _ =>
  (f_198 a2 h205).bind fun (x209, h208) =>
  (if x206 = x209 then
  f_270_23 n a0 a1 a2 a3 (a4 + 5) h208
  else
  (pZ 0 h208).bind fun q211 => some (.inr q211))
  else
  if (x3 &&& 63) = 14 then
  (pG (pIs h a1 11)).bind fun _ =>
  (f_123 a1 h).bind fun (x214, h213) =>
  (pG (pIs h213 a2 12)).bind fun _ =>
  (f_199 a2 h213).bind fun (x217, h216) =>
  (if x214 = x217 then
  f_270_23 n a0 a1 a2 a3 (a4 + 5) h216
  else
  (pZ 0 h216).bind fun q219 => some (.inr q219))
  else
  if (x3 &&& 63) = 15 then
  (pAi h a0 (a4 + 1)).bind fun x220 =>
  (pG (pIs h a1 11)).bind fun _ =>
  (f_124 a1 x220 h).bind fun (x223, h222) =>
  (pAi h222 a0 (a4 + 1)).bind fun x224 =>
  (pG (pIs h222 a2 12)).bind fun _ =>
  (f_200 a2 x224 h222).bind fun (x227, h226) =>
  (if x223 = x227 then
  f_270_23 n a0 a1 a2 a3 (a4 + 5) h226
  else
  (pZ 0 h226).bind fun q229 => some (.inr q229))
  else
  if (x3 &&& 63) = 16 then
  (pG (pIs h a1 11)).bind fun _ =>
  (f_127 a1 h).bind fun (x232, h231) =>
  (pG (pIs h231 a2 12)).bind fun _ =>
  (f_209 a2 h231).bind fun (x235, h234) =>
  (if x232 = x235 then
  f_270_23 n a0 a1 a2 a3 (a4 + 5) h234
  else
  (pZ 0 h234).bind fun q237 => some (.inr q237))
  else
  if (x3 &&& 63) = 17 then
  (pAi h a0 (a4 + 1)).bind fun x238 =>
  (pAi h a0 (a4 + 2)).bind fun x239 =>
  (pG (pIs h a1 11)).bind fun _ =>
  (f_128 a1 x238 x239 h).bind fun (x242, h241) =>
  (pAi h241 a0 (a4 + 1)).bind fun x243 =>
  (pAi h241 a0 (a4 + 2)).bind fun x244 =>
  (pG (pIs h241 a2 12)).bind fun _ =>
  (f_210 a2 x243 x244 h241).bind fun (x247, h246) =>
  (if x242 = x247 then
  f_270_23 n a0 a1 a2 a3 (a4 + 5) h246
  else
  (pZ 0 h246).bind fun q249 => some (.inr q249))
  else
  if (x3 &&& 63) = 18 then
  (pG (pIs h a1 11)).bind fun _ =>
  (f_129 a1 h).bind fun (x252, h251) =>
  (pG (pIs h251 a2 12)).bind fun _ =>
  (f_212 a2 h251).bind fun (x255, h254) =>
  (if x252 = x255 then
  f_270_23 n a0 a1 a2 a3 (a4 + 5) h254
  else
  (pZ 0 h254).bind fun q257 => some (.inr q257))
  else
  if (x3 &&& 63) = 19 then
  (pG (pIs h a1 11)).bind fun _ =>
  (f_130 a1 h).bind fun (x260, h259) =>
  (pG (pIs h259 a2 12)).bind fun _ =>
  (f_214 a2 h259).bind fun (x263, h262) =>
  (if x260 = x263 then
  f_270_23 n a0 a1 a2 a3 (a4 + 5) h262
  else
  (pZ 0 h262).bind fun q265 => some (.inr q265))
  else
  if (x3 &&& 63) = 20 then
  (pAi h a0 (a4 + 1)).bind fun x266 =>
  (pG (pIs h a1 11)).bind fun _ =>
  (f_131 a1 x266 h).bind fun (x269, h268) =>
  (pAi h268 a0 (a4 + 1)).bind fun x270 =>
  (pG (pIs h268 a2 12)).bind fun _ =>
  (f_215 a2 x270 h268).bind fun (x273, h272) =>
  (if x269 = x273 then
  f_270_23 n a0 a1 a2 a3 (a4 + 5) h272
  else
  (pZ 0 h272).bind fun q275 => some (.inr q275))
  else
  if (x3 &&& 63) = 21 then
  (pAi h a0 (a4 + 1)).bind fun x276 =>
  (pG (pIs h a1 11)).bind fun _ =>
  (f_132 a1 x276 h).bind fun (x279, h278) =>
  (pAi h278 a0 (a4 + 1)).bind fun x280 =>
  (pG (pIs h278 a2 12)).bind fun _ =>
  (f_220 a2 x280 h278).bind fun (x283, h282) =>
  (if x279 = x283 then
  f_270_23 n a0 a1 a2 a3 (a4 + 5) h282
  else
  (pZ 0 h282).bind fun q285 => some (.inr q285))
  else
  if (x3 &&& 63) = 22 then
  (pG (pIs h a1 11)).bind fun _ =>
  (f_134 a1 h).bind fun (x288, h287) =>
  (pG (pIs h287 a2 12)).bind fun _ =>
  (f_222 a2 h287).bind fun (x291, h290) =>
  (if x288 = x291 then
  f_270_23 n a0 a1 a2 a3 (a4 + 5) h290
  else
  (pZ 0 h290).bind fun q293 => some (.inr q293))
  else
  if (x3 &&& 63) = 23 then
  (pG (pIs h a1 11)).bind fun _ =>
  (f_135 a1 h).bind fun (x296, h295) =>
  (pG (pIs h295 a2 12)).bind fun _ =>
  (f_218 a2 h295).bind fun (x299, h298) =>
  (if x296 = x299 then
  f_270_23 n a0 a1 a2 a3 (a4 + 5) h298
  else
  (pZ 0 h298).bind fun q301 => some (.inr q301))
  else
  if (x3 &&& 63) = 24 then
  (pG (pIs h a1 11)).bind fun _ =>
  (f_136 a1 h).bind fun (x304, h303) =>
  (pG (pIs h303 a2 12)).bind fun _ =>
  (f_223 a2 h303).bind fun (x307, h306) =>
  (if x304 = x307 then
  f_270_23 n a0 a1 a2 a3 (a4 + 5) h306
  else
  (pZ 0 h306).bind fun q309 => some (.inr q309))
  else
  if (x3 &&& 63) = 25 then
  (pG (pIs h a1 11)).bind fun _ =>
  (f_138 a1 h).bind fun (x312, h311) =>
  (pG (pIs h311 a2 12)).bind fun _ =>
  (f_233 a2 h311).bind fun (x315, h314) =>
  (if x312 = x315 then
  f_270_23 n a0 a1 a2 a3 (a4 + 5) h314
  else
  (pZ 0 h314).bind fun q317 => some (.inr q317))
  else
  if (x3 &&& 63) = 26 then
  (pG (pIs h a1 11)).bind fun _ =>
  (f_139 a1 h).bind fun (x320, h319) =>
  (pG (pIs h319 a2 12)).bind fun _ =>
  (f_235 a2 h319).bind fun (x323, h322) =>
  (if x320 = x323 then
  f_270_23 n a0 a1 a2 a3 (a4 + 5) h322
  else
  (pZ 0 h322).bind fun q325 => some (.inr q325))
  else
  if (x3 &&& 63) = 27 then
  (pG (pIs h a1 11)).bind fun _ =>
  (f_140 a1 h).bind fun (x328, h327) =>
  (pG (pIs h327 a2 12)).bind fun _ =>
  (f_236 a2 h327).bind fun (x331, h330) =>
  (if x328 = x331 then
  f_270_23 n a0 a1 a2 a3 (a4 + 5) h330
  else
  (pZ 0 h330).bind fun q333 => some (.inr q333))
  else
  if (x3 &&& 63) = 28 then
  (pG (pIs h a1 11)).bind fun _ =>
  (f_141 a1 h).bind fun (x336, h335) =>
  (pG (pIs h335 a2 12)).bind fun _ =>
  (f_238 a2 h335).bind fun (x339, h338) =>
  (if x336 = x339 then
  f_270_23 n a0 a1 a2 a3 (a4 + 5) h338
  else
  (pZ 0 h338).bind fun q341 => some (.inr q341))
  else
  if (x3 &&& 63) = 29 then
  (pG (pIs h a1 11)).bind fun _ =>
  (f_142 a1 h).bind fun (x344, h343) =>
  (pG (pIs h343 a2 12)).bind fun _ =>
  (f_239 a2 h343).bind fun (x347, h346) =>
  (if x344 = x347 then
  f_270_23 n a0 a1 a2 a3 (a4 + 5) h346
  else
  (pZ 0 h346).bind fun q349 => some (.inr q349))
  else
  if (x3 &&& 63) = 30 then
  (pAi h a0 (a4 + 1)).bind fun x350 =>
  (pG (pIs h a1 11)).bind fun _ =>
  (f_143 a1 x350 h).bind fun (x353, h352) =>
  (pAi h352 a0 (a4 + 1)).bind fun x354 =>
  (pG (pIs h352 a2 12)).bind fun _ =>
  (f_240 a2 x354 h352).bind fun (x357, h356) =>
  (if x353 = x357 then
  f_270_23 n a0 a1 a2 a3 (a4 + 5) h356
  else
  (pZ 0 h356).bind fun q359 => some (.inr q359))
  else
  if (x3 &&& 63) = 31 then
  (pAi h a0 (a4 + 1)).bind fun x360 =>
  (pG (pIs h a1 11)).bind fun _ =>
  (f_144 a1 x360 h).bind fun (x363, h362) =>
  (pAi h362 a0 (a4 + 1)).bind fun x364 =>
  (pG (pIs h362 a2 12)).bind fun _ =>
  (f_243 a2 x364 h362).bind fun (x367, h366) =>
  (if x363 = x367 then
  f_270_23 n a0 a1 a2 a3 (a4 + 5) h366
  else
  (pZ 0 h366).bind fun q369 => some (.inr q369))
  else
  if (x3 &&& 63) = 32 then
  (pAi h a0 (a4 + 1)).bind fun x370 =>
  (pG (pIs h a1 11)).bind fun _ =>
  (f_146 a1 x370 h).bind fun (x373, h372) =>
  (pAi h372 a0 (a4 + 1)).bind fun x374 =>
  (pG (pIs h372 a2 12)).bind fun _ =>
  (f_244 a2 x374 h372).bind fun (x377, h376) =>
  (if x373 = x377 then
  f_270_23 n a0 a1 a2 a3 (a4 + 5) h376
  else
  (pZ 0 h376).bind fun q379 => some (.inr q379))
  else
  if (x3 &&& 63) = 33 then
  (pAi h a0 (a4 + 1)).bind fun x380 =>
  (pAi h a0 (a4 + 2)).bind fun x381 =>
  (pG (pIs h a1 11)).bind fun _ =>
  (f_148 a1 x380 x381 h).bind fun (x384, h383) =>
  (pAi h383 a0 (a4 + 1)).bind fun x385 =>
  (pAi h383 a0 (a4 + 2)).bind fun x386 =>
  (pG (pIs h383 a2 12)).bind fun _ =>
  (f_246 a2 x385 x386 h383).bind fun (x389, h388) =>
  (if x384 = x389 then
  f_270_23 n a0 a1 a2 a3 (a4 + 5) h388
  else
  (pZ 0 h388).bind fun q391 => some (.inr q391))
  else
  if (x3 &&& 63) = 34 then
  (pAi h a0 (a4 + 1)).bind fun x392 =>
  (pAi h a0 (a4 + 2)).bind fun x393 =>
  (pAi h a0 (a4 + 3)).bind fun x394 =>
  (pG (pIs h a1 11)).bind fun _ =>
  (f_149 a1 x392 x393 x394 h).bind fun (x397, h396) =>
  (pAi h396 a0 (a4 + 1)).bind fun x398 =>
  (pAi h396 a0 (a4 + 2)).bind fun x399 =>
  (pAi h396 a0 (a4 + 3)).bind fun x400 =>
  (pG (pIs h396 a2 12)).bind fun _ =>
  (f_247 a2 x398 x399 x400 h396).bind fun (x403, h402) =>
  (if x397 = x403 then
  f_270_23 n a0 a1 a2 a3 (a4 + 5) h402
  else
  (pZ 0 h402).bind fun q405 => some (.inr q405))
  else
  if (x3 &&& 63) = 35 then
  (pG (pIs h a1 11)).bind fun _ =>
  (f_150 a1 h).bind fun (x408, h407) =>
  (pG (pIs h407 a2 12)).bind fun _ =>
  (f_248 a2 h407).bind fun (x411, h410) =>
  (if x408 = x411 then
  f_270_23 n a0 a1 a2 a3 (a4 + 5) h410
  else
  (pZ 0 h410).bind fun q413 => some (.inr q413))
  else
  if (x3 &&& 63) = 36 then
  (pAi h a0 (a4 + 1)).bind fun x414 =>
  (pG (pIs h a1 11)).bind fun _ =>
  (f_151 a1 x414 h).bind fun (x417, h416) =>
  (pAi h416 a0 (a4 + 1)).bind fun x418 =>
  (pG (pIs h416 a2 12)).bind fun _ =>
  (f_255 a2 x418 h416).bind fun (x421, h420) =>
  (if x417 = x421 then
  f_270_23 n a0 a1 a2 a3 (a4 + 5) h420
  else
  (pZ 0 h420).bind fun q423 => some (.inr q423))
  else
  if (x3 &&& 63) = 37 then
  (pAi h a0 (a4 + 1)).bind fun x424 =>
  (pG (pIs h a1 11)).bind fun _ =>
  (f_153 a1 x424 h).bind fun (x427, h426) =>
  (pAi h426 a0 (a4 + 1)).bind fun x428 =>
  (pG (pIs h426 a2 12)).bind fun _ =>
  (f_256 a2 x428 h426).bind fun (x431, h430) =>
  (if x427 = x431 then
  f_270_23 n a0 a1 a2 a3 (a4 + 5) h430
  else
  (pZ 0 h430).bind fun q433 => some (.inr q433))
  else
  if (x3 &&& 63) = 38 then
  (pAi h a0 (a4 + 1)).bind fun x434 =>
  (pG (pIs h a1 11)).bind fun _ =>
  (f_154 a1 x434 h).bind fun (x437, h436) =>
  (pAi h436 a0 (a4 + 1)).bind fun x438 =>
  (pG (pIs h436 a2 12)).bind fun _ =>
  (f_258 a2 x438 h436).bind fun (x441, h440) =>
  (if x437 = x441 then
  f_270_23 n a0 a1 a2 a3 (a4 + 5) h440
  else
  (pZ 0 h440).bind fun q443 => some (.inr q443))
  else
  if (x3 &&& 63) = 39 then
  (pAi h a0 (a4 + 1)).bind fun x444 =>
  (pG (pIs h a1 11)).bind fun _ =>
  (f_155 a1 x444 h).bind fun (x447, h446) =>
  (pAi h446 a0 (a4 + 1)).bind fun x448 =>
  (pG (pIs h446 a2 12)).bind fun _ =>
  (f_259 a2 x448 h446).bind fun (x451, h450) =>
  (if x447 = x451 then
  f_270_23 n a0 a1 a2 a3 (a4 + 5) h450
  else
  (pZ 0 h450).bind fun q453 => some (.inr q453))
  else
  if (x3 &&& 63) = 40 then
  (pAi h a0 (a4 + 1)).bind fun x454 =>
  (pG (pIs h a1 11)).bind fun _ =>
  (f_156 a1 x454 h).bind fun (x457, h456) =>
  (pAi h456 a0 (a4 + 1)).bind fun x458 =>
  (pG (pIs h456 a2 12)).bind fun _ =>
  (f_260 a2 x458 h456).bind fun (x461, h460) =>
  (if x457 = x461 then
  f_270_23 n a0 a1 a2 a3 (a4 + 5) h460
  else
  (pZ 0 h460).bind fun q463 => some (.inr q463))
  else
  if (x3 &&& 63) = 41 then
  (pAi h a0 (a4 + 1)).bind fun x464 =>
  (pG (pIs h a1 11)).bind fun _ =>
  (f_157 a1 x464 h).bind fun (x467, h466) =>
  (pAi h466 a0 (a4 + 1)).bind fun x468 =>
  (pG (pIs h466 a2 12)).bind fun _ =>
  (f_261 a2 x468 h466).bind fun (x471, h470) =>
  (if x467 = x471 then
  f_270_23 n a0 a1 a2 a3 (a4 + 5) h470
  else
  (pZ 0 h470).bind fun q473 => some (.inr q473))
  else
  if (x3 &&& 63) = 42 then
  (pAi h a0 (a4 + 1)).bind fun x474 =>
  (pG (pIs h a1 11)).bind fun _ =>
  (f_158 a1 x474 h).bind fun (x477, h476) =>
  (pAi h476 a0 (a4 + 1)).bind fun x478 =>
  (pG (pIs h476 a2 12)).bind fun _ =>
  (f_263 a2 x478 h476).bind fun (x481, h480) =>
  (if x477 = x481 then
  f_270_23 n a0 a1 a2 a3 (a4 + 5) h480
  else
  (pZ 0 h480).bind fun q483 => some (.inr q483))
  else
  if (x3 &&& 63) = 43 then
  (pAi h a0 (a4 + 1)).bind fun x484 =>
  (pG (pIs h a1 11)).bind fun _ =>
  (f_159 a1 x484 h).bind fun (q486, h487) =>
  (pCau (some (xOl q486)) a3 h487).bind fun (x488, h489) =>
  (pAi h489 a0 (a4 + 1)).bind fun x490 =>
  (pG (pIs h489 a2 12)).bind fun _ =>
  (f_264 a2 x490 h489).bind fun (x493, h492) =>
  (pG (pIs h492 a2 12)).bind fun _ =>
  (f_160 a2 h492).bind fun (x496, h495) =>
  (if x496 = x488 then
  (if x488 = 0 then
  (pAl h495 a3 0).bind fun x499 =>
  (if (lg_cmp x499 x493) = 0 then
  f_270_23 n a0 a1 a2 a3 (a4 + 5) h495
  else
  (pZ 0 h495).bind fun q501 => some (.inr q501))
  else
  f_270_23 n a0 a1 a2 a3 (a4 + 5) h495)
  else
  (pZ 0 h495).bind fun q502 => some (.inr q502))
  else
  f_270_23 n a0 a1 a2 a3 (a4 + 5) h))
theorem ef_270_23 (d : Nat) (Q : Option Value → xH → Prop)  : ∀ (n : Nat) (a0 : Nat) (a1 : Nat) (a2 : Nat) (a3 : Nat) (a4 : Int32) (h : xH) (r : (xH) ⊕ (Int32 × xH)), f_270_23 n a0 a1 a2 a3 a4 h = some r → (∀  (h1 : xH), r = .inl h1 → Wp (d + 124) 270 1354 [none, none, none, none, none, none, none, none] [] h1 Q) → (∀ (x : Int32) (h1 : xH), r = .inr (x, h1) → Q (some (.int x)) h1) → Wp (d + 124) 270 23 [some (.ref a0), some (.ref a1), some (.ref a2), some (.ref a3), some (.int a4), none, none, none] [] h Q := by
  intro n
  induction n with
  | zero =>
    intro a0 a1 a2 a3 a4 h r H
    cases H
  | succ n ih =>
    intro a0 a1 a2 a3 a4 h r H KE KR
    unfold f_270_23 at H
    refine wp_iload xi_270 dL_law_23 rfl ?_
    refine wp_aload_n xi_270 dL_law_25 rfl ?_
    obtain ⟨x1, gx1, H⟩ := Option.bind_eq_some_iff.mp H
    refine wq_alen xi_270 dL_law_26 gx1 ?_
    refine wp_iconst 5 xi_270 dL_law_27 rfl ?_
    refine wp_isub xi_270 dL_law_28 ?_
    refine wp_icmp_gt 1354 xi_270 dL_law_29 rfl (fun c2 => ?_) (fun c2 => ?_)
    · rw [if_pos c2] at H
      obtain rfl := Option.some.inj H
      exact Wp.more (by simp [xMore, Value.category]) (KE  h rfl)
    · rw [if_neg c2] at H
      refine wp_aload_n xi_270 dL_law_32 rfl ?_
      refine wp_iload xi_270 dL_law_33 rfl ?_
      obtain ⟨x3, gx3, H⟩ := Option.bind_eq_some_iff.mp H
      refine wq_iaload xi_270 dL_law_35 gx3 ?_
      refine wp_bipush 63 xi_270 dL_law_36 rfl ?_
      refine wp_iand xi_270 dL_law_38 ?_
      by_cases c4 : (x3 &&& 63) = 0
      · rw [if_pos c4] at H
        refine Wp.pure (p2 := 228) (ls2 := [some (.ref a0), some (.ref a1), some (.ref a2), some (.ref a3), some (.int a4), none, none, none]) (st2 := []) (h2 := h) xi_270 dL_law_39 rfl rfl rfl (by rw [c4]; rfl) ?_
        refine wp_aload_n xi_270 dL_law_228 rfl ?_
        refine wp_aload_n xi_270 dL_law_229 rfl ?_
        refine wp_iload xi_270 dL_law_230 rfl ?_
        refine wp_iconst 1 xi_270 dL_law_232 rfl ?_
        refine wp_iadd xi_270 dL_law_233 ?_
        obtain ⟨x48, gx48, H⟩ := Option.bind_eq_some_iff.mp H
        refine wq_iaload xi_270 dL_law_234 gx48 ?_
        obtain ⟨u49, gu49, H⟩ := Option.bind_eq_some_iff.mp H
        obtain ⟨⟨x51, h50⟩, gh50, H⟩ := Option.bind_eq_some_iff.mp H
        dsimp only at H
        refine wq_callV (a := a1) (as := [.int x48]) (r := []) (v1 := (some (.int x51))) xi_270 xi_105 dL_law_235 xm_13_26 rfl (Nat.le_of_ble_eq_true rfl) (pG_ok gu49) ⟨(Nat.le_of_ble_eq_true rfl), (Nat.le_of_ble_eq_true rfl)⟩ rfl nofun (e_105 (d + 122) _ gh50 ⟨rfl, rfl⟩) ?_
        change Wp _ _ _ _ [.int x51] _ _
        refine wp_aload_n xi_270 dL_law_238 rfl ?_
        refine wp_aload_n xi_270 dL_law_239 rfl ?_
        refine wp_iload xi_270 dL_law_240 rfl ?_
        refine wp_iconst 1 xi_270 dL_law_242 rfl ?_
        refine wp_iadd xi_270 dL_law_243 ?_
        obtain ⟨x52, gx52, H⟩ := Option.bind_eq_some_iff.mp H
        refine wq_iaload xi_270 dL_law_244 gx52 ?_
        obtain ⟨u53, gu53, H⟩ := Option.bind_eq_some_iff.mp H
        obtain ⟨⟨x55, h54⟩, gh54, H⟩ := Option.bind_eq_some_iff.mp H
        dsimp only at H
        refine wq_callV (a := a2) (as := [.int x52]) (r := [.int x51]) (v1 := (some (.int x55))) xi_270 xi_171 dL_law_245 xm_13_30 rfl (Nat.le_of_ble_eq_true rfl) (pG_ok gu53) ⟨(Nat.le_of_ble_eq_true rfl), (Nat.le_of_ble_eq_true rfl)⟩ rfl nofun (e_171 (d + 123) _ gh54 ⟨rfl, rfl⟩) ?_
        change Wp _ _ _ _ [.int x55, .int x51] _ _
        refine wp_icmp_eq 1348 xi_270 dL_law_248 rfl (fun c56 => ?_) (fun c56 => ?_)
        · rw [if_pos c56] at H
          refine wp_iinc (a4 + 5) [some (.ref a0), some (.ref a1), some (.ref a2), some (.ref a3), some (.int (a4 + 5)), none, none, none] xi_270 dL_law_1348 rfl rfl rfl ?_
          refine wp_goto 23 xi_270 dL_law_1351 rfl ?_
          exact Wp.more (by simp [xMore, Value.category]) (ih a0 a1 a2 a3 (a4 + 5) h54 _ H KE KR)
        · rw [if_neg c56] at H
          refine wp_iconst 0 xi_270 dL_law_251 rfl ?_
          obtain ⟨q57, gq57, H⟩ := Option.bind_eq_some_iff.mp H
          obtain ⟨gz, rfl⟩ := pZ_ok gq57
          obtain rfl := Option.some.inj H
          exact wp_zret xi_270 dL_law_252 gz (KR _ _ rfl)
      · rw [if_neg c4] at H
        by_cases c5 : (x3 &&& 63) = 1
        · rw [if_pos c5] at H
          refine Wp.pure (p2 := 253) (ls2 := [some (.ref a0), some (.ref a1), some (.ref a2), some (.ref a3), some (.int a4), none, none, none]) (st2 := []) (h2 := h) xi_270 dL_law_39 rfl rfl rfl (by rw [c5]; rfl) ?_
          refine wp_aload_n xi_270 dL_law_253 rfl ?_
          refine wp_aload_n xi_270 dL_law_254 rfl ?_
          refine wp_iload xi_270 dL_law_255 rfl ?_
          refine wp_iconst 1 xi_270 dL_law_257 rfl ?_
          refine wp_iadd xi_270 dL_law_258 ?_
          obtain ⟨x58, gx58, H⟩ := Option.bind_eq_some_iff.mp H
          refine wq_iaload xi_270 dL_law_259 gx58 ?_
          obtain ⟨u59, gu59, H⟩ := Option.bind_eq_some_iff.mp H
          obtain ⟨⟨x61, h60⟩, gh60, H⟩ := Option.bind_eq_some_iff.mp H
          dsimp only at H
          refine wq_callV (a := a1) (as := [.int x58]) (r := []) (v1 := (some (.int x61))) xi_270 xi_106 dL_law_260 xm_13_31 rfl (Nat.le_of_ble_eq_true rfl) (pG_ok gu59) ⟨(Nat.le_of_ble_eq_true rfl), (Nat.le_of_ble_eq_true rfl)⟩ rfl nofun (e_106 (d + 122) _ gh60 ⟨rfl, rfl⟩) ?_
          change Wp _ _ _ _ [.int x61] _ _
          refine wp_aload_n xi_270 dL_law_263 rfl ?_
          refine wp_aload_n xi_270 dL_law_264 rfl ?_
          refine wp_iload xi_270 dL_law_265 rfl ?_
          refine wp_iconst 1 xi_270 dL_law_267 rfl ?_
          refine wp_iadd xi_270 dL_law_268 ?_
          obtain ⟨x62, gx62, H⟩ := Option.bind_eq_some_iff.mp H
          refine wq_iaload xi_270 dL_law_269 gx62 ?_
          obtain ⟨u63, gu63, H⟩ := Option.bind_eq_some_iff.mp H
          obtain ⟨⟨x65, h64⟩, gh64, H⟩ := Option.bind_eq_some_iff.mp H
          dsimp only at H
          refine wq_callV (a := a2) (as := [.int x62]) (r := [.int x61]) (v1 := (some (.int x65))) xi_270 xi_172 dL_law_270 xm_13_35 rfl (Nat.le_of_ble_eq_true rfl) (pG_ok gu63) ⟨(Nat.le_of_ble_eq_true rfl), (Nat.le_of_ble_eq_true rfl)⟩ rfl nofun (e_172 (d + 122) _ gh64 ⟨rfl, rfl⟩) ?_
          change Wp _ _ _ _ [.int x65, .int x61] _ _
          refine wp_icmp_eq 1348 xi_270 dL_law_273 rfl (fun c66 => ?_) (fun c66 => ?_)
          · rw [if_pos c66] at H
            refine wp_iinc (a4 + 5) [some (.ref a0), some (.ref a1), some (.ref a2), some (.ref a3), some (.int (a4 + 5)), none, none, none] xi_270 dL_law_1348 rfl rfl rfl ?_
            refine wp_goto 23 xi_270 dL_law_1351 rfl ?_
            exact Wp.more (by simp [xMore, Value.category]) (ih a0 a1 a2 a3 (a4 + 5) h64 _ H KE KR)
          · rw [if_neg c66] at H
            refine wp_iconst 0 xi_270 dL_law_276 rfl ?_
            obtain ⟨q67, gq67, H⟩ := Option.bind_eq_some_iff.mp H
            obtain ⟨gz, rfl⟩ := pZ_ok gq67
            obtain rfl := Option.some.inj H
            exact wp_zret xi_270 dL_law_277 gz (KR _ _ rfl)
        · rw [if_neg c5] at H
          by_cases c6 : (x3 &&& 63) = 2
          · rw [if_pos c6] at H
            refine Wp.pure (p2 := 278) (ls2 := [some (.ref a0), some (.ref a1), some (.ref a2), some (.ref a3), some (.int a4), none, none, none]) (st2 := []) (h2 := h) xi_270 dL_law_39 rfl rfl rfl (by rw [c6]; rfl) ?_
            refine wp_aload_n xi_270 dL_law_278 rfl ?_
            obtain ⟨u68, gu68, H⟩ := Option.bind_eq_some_iff.mp H
            obtain ⟨⟨x70, h69⟩, gh69, H⟩ := Option.bind_eq_some_iff.mp H
            dsimp only at H
            refine wq_callV (a := a1) (as := []) (r := []) (v1 := (some (.int x70))) xi_270 xi_107 dL_law_279 xm_13_36 rfl (Nat.le_of_ble_eq_true rfl) (pG_ok gu68) ⟨(Nat.le_of_ble_eq_true rfl), (Nat.le_of_ble_eq_true rfl)⟩ rfl nofun (e_107 (d + 119) _ gh69 ⟨rfl, rfl⟩) ?_
            change Wp _ _ _ _ [.int x70] _ _
            refine wp_aload_n xi_270 dL_law_282 rfl ?_
            obtain ⟨u71, gu71, H⟩ := Option.bind_eq_some_iff.mp H
            obtain ⟨⟨x73, h72⟩, gh72, H⟩ := Option.bind_eq_some_iff.mp H
            dsimp only at H
            refine wq_callV (a := a2) (as := []) (r := [.int x70]) (v1 := (some (.int x73))) xi_270 xi_179 dL_law_283 xm_13_40 rfl (Nat.le_of_ble_eq_true rfl) (pG_ok gu71) ⟨(Nat.le_of_ble_eq_true rfl), (Nat.le_of_ble_eq_true rfl)⟩ rfl nofun (e_179 (d + 120) _ gh72 ⟨rfl, rfl⟩) ?_
            change Wp _ _ _ _ [.int x73, .int x70] _ _
            refine wp_icmp_eq 1348 xi_270 dL_law_286 rfl (fun c74 => ?_) (fun c74 => ?_)
            · rw [if_pos c74] at H
              refine wp_iinc (a4 + 5) [some (.ref a0), some (.ref a1), some (.ref a2), some (.ref a3), some (.int (a4 + 5)), none, none, none] xi_270 dL_law_1348 rfl rfl rfl ?_
              refine wp_goto 23 xi_270 dL_law_1351 rfl ?_
              exact Wp.more (by simp [xMore, Value.category]) (ih a0 a1 a2 a3 (a4 + 5) h72 _ H KE KR)
            · rw [if_neg c74] at H
              refine wp_iconst 0 xi_270 dL_law_289 rfl ?_
              obtain ⟨q75, gq75, H⟩ := Option.bind_eq_some_iff.mp H
              obtain ⟨gz, rfl⟩ := pZ_ok gq75
              obtain rfl := Option.some.inj H
              exact wp_zret xi_270 dL_law_290 gz (KR _ _ rfl)
          · rw [if_neg c6] at H
            by_cases c7 : (x3 &&& 63) = 3
            · rw [if_pos c7] at H
              refine Wp.pure (p2 := 291) (ls2 := [some (.ref a0), some (.ref a1), some (.ref a2), some (.ref a3), some (.int a4), none, none, none]) (st2 := []) (h2 := h) xi_270 dL_law_39 rfl rfl rfl (by rw [c7]; rfl) ?_
              refine wp_aload_n xi_270 dL_law_291 rfl ?_
              obtain ⟨u76, gu76, H⟩ := Option.bind_eq_some_iff.mp H
              obtain ⟨⟨x78, h77⟩, gh77, H⟩ := Option.bind_eq_some_iff.mp H
              dsimp only at H
              refine wq_callV (a := a1) (as := []) (r := []) (v1 := (some (.int x78))) xi_270 xi_108 dL_law_292 xm_13_41 rfl (Nat.le_of_ble_eq_true rfl) (pG_ok gu76) ⟨(Nat.le_of_ble_eq_true rfl), (Nat.le_of_ble_eq_true rfl)⟩ rfl nofun (e_108 (d + 118) _ gh77 ⟨rfl, rfl⟩) ?_
              change Wp _ _ _ _ [.int x78] _ _
              refine wp_aload_n xi_270 dL_law_295 rfl ?_
              obtain ⟨u79, gu79, H⟩ := Option.bind_eq_some_iff.mp H
              obtain ⟨⟨x81, h80⟩, gh80, H⟩ := Option.bind_eq_some_iff.mp H
              dsimp only at H
              refine wq_callV (a := a2) (as := []) (r := [.int x78]) (v1 := (some (.int x81))) xi_270 xi_184 dL_law_296 xm_13_44 rfl (Nat.le_of_ble_eq_true rfl) (pG_ok gu79) ⟨(Nat.le_of_ble_eq_true rfl), (Nat.le_of_ble_eq_true rfl)⟩ rfl nofun (e_184 d _ gh80 ⟨rfl, rfl⟩) ?_
              change Wp _ _ _ _ [.int x81, .int x78] _ _
              refine wp_icmp_eq 1348 xi_270 dL_law_299 rfl (fun c82 => ?_) (fun c82 => ?_)
              · rw [if_pos c82] at H
                refine wp_iinc (a4 + 5) [some (.ref a0), some (.ref a1), some (.ref a2), some (.ref a3), some (.int (a4 + 5)), none, none, none] xi_270 dL_law_1348 rfl rfl rfl ?_
                refine wp_goto 23 xi_270 dL_law_1351 rfl ?_
                exact Wp.more (by simp [xMore, Value.category]) (ih a0 a1 a2 a3 (a4 + 5) h80 _ H KE KR)
              · rw [if_neg c82] at H
                refine wp_iconst 0 xi_270 dL_law_302 rfl ?_
                obtain ⟨q83, gq83, H⟩ := Option.bind_eq_some_iff.mp H
                obtain ⟨gz, rfl⟩ := pZ_ok gq83
                obtain rfl := Option.some.inj H
                exact wp_zret xi_270 dL_law_303 gz (KR _ _ rfl)
            · rw [if_neg c7] at H
              by_cases c8 : (x3 &&& 63) = 4
              · rw [if_pos c8] at H
                refine Wp.pure (p2 := 304) (ls2 := [some (.ref a0), some (.ref a1), some (.ref a2), some (.ref a3), some (.int a4), none, none, none]) (st2 := []) (h2 := h) xi_270 dL_law_39 rfl rfl rfl (by rw [c8]; rfl) ?_
                refine wp_aload_n xi_270 dL_law_304 rfl ?_
                obtain ⟨u84, gu84, H⟩ := Option.bind_eq_some_iff.mp H
                obtain ⟨⟨x86, h85⟩, gh85, H⟩ := Option.bind_eq_some_iff.mp H
                dsimp only at H
                refine wq_callV (a := a1) (as := []) (r := []) (v1 := (some (.int x86))) xi_270 xi_109 dL_law_305 xm_13_45 rfl (Nat.le_of_ble_eq_true rfl) (pG_ok gu84) ⟨(Nat.le_of_ble_eq_true rfl), (Nat.le_of_ble_eq_true rfl)⟩ rfl nofun (e_109 (d + 121) _ gh85 ⟨rfl, rfl⟩) ?_
                change Wp _ _ _ _ [.int x86] _ _
                refine wp_aload_n xi_270 dL_law_308 rfl ?_
                obtain ⟨u87, gu87, H⟩ := Option.bind_eq_some_iff.mp H
                obtain ⟨⟨x89, h88⟩, gh88, H⟩ := Option.bind_eq_some_iff.mp H
                dsimp only at H
                refine wq_callV (a := a2) (as := []) (r := [.int x86]) (v1 := (some (.int x89))) xi_270 xi_180 dL_law_309 xm_13_48 rfl (Nat.le_of_ble_eq_true rfl) (pG_ok gu87) ⟨(Nat.le_of_ble_eq_true rfl), (Nat.le_of_ble_eq_true rfl)⟩ rfl nofun (e_180 (d + 121) _ gh88 ⟨rfl, rfl⟩) ?_
                change Wp _ _ _ _ [.int x89, .int x86] _ _
                refine wp_icmp_eq 1348 xi_270 dL_law_312 rfl (fun c90 => ?_) (fun c90 => ?_)
                · rw [if_pos c90] at H
                  refine wp_iinc (a4 + 5) [some (.ref a0), some (.ref a1), some (.ref a2), some (.ref a3), some (.int (a4 + 5)), none, none, none] xi_270 dL_law_1348 rfl rfl rfl ?_
                  refine wp_goto 23 xi_270 dL_law_1351 rfl ?_
                  exact Wp.more (by simp [xMore, Value.category]) (ih a0 a1 a2 a3 (a4 + 5) h88 _ H KE KR)
                · rw [if_neg c90] at H
                  refine wp_iconst 0 xi_270 dL_law_315 rfl ?_
                  obtain ⟨q91, gq91, H⟩ := Option.bind_eq_some_iff.mp H
                  obtain ⟨gz, rfl⟩ := pZ_ok gq91
                  obtain rfl := Option.some.inj H
                  exact wp_zret xi_270 dL_law_316 gz (KR _ _ rfl)
              · rw [if_neg c8] at H
                by_cases c9 : (x3 &&& 63) = 5
                · rw [if_pos c9] at H
                  refine Wp.pure (p2 := 317) (ls2 := [some (.ref a0), some (.ref a1), some (.ref a2), some (.ref a3), some (.int a4), none, none, none]) (st2 := []) (h2 := h) xi_270 dL_law_39 rfl rfl rfl (by rw [c9]; rfl) ?_
                  refine wp_aload_n xi_270 dL_law_317 rfl ?_
                  refine wp_aload_n xi_270 dL_law_318 rfl ?_
                  refine wp_iload xi_270 dL_law_319 rfl ?_
                  refine wp_iconst 1 xi_270 dL_law_321 rfl ?_
                  refine wp_iadd xi_270 dL_law_322 ?_
                  obtain ⟨x92, gx92, H⟩ := Option.bind_eq_some_iff.mp H
                  refine wq_iaload xi_270 dL_law_323 gx92 ?_
                  refine wp_aload_n xi_270 dL_law_324 rfl ?_
                  refine wp_iload xi_270 dL_law_325 rfl ?_
                  refine wp_iconst 2 xi_270 dL_law_327 rfl ?_
                  refine wp_iadd xi_270 dL_law_328 ?_
                  obtain ⟨x93, gx93, H⟩ := Option.bind_eq_some_iff.mp H
                  refine wq_iaload xi_270 dL_law_329 gx93 ?_
                  refine wp_aload_n xi_270 dL_law_330 rfl ?_
                  obtain ⟨u94, gu94, H⟩ := Option.bind_eq_some_iff.mp H
                  obtain ⟨⟨q95, h96⟩, gh96, H⟩ := Option.bind_eq_some_iff.mp H
                  dsimp only at H
                  obtain ⟨⟨x97, h98⟩, gh98, H⟩ := Option.bind_eq_some_iff.mp H
                  dsimp only at H
                  refine wq_try (N := 111) (a := a1) (as := [.int x92, .int x93]) (r := []) (v1 := (some (xOi q95))) xi_270 xi_111 dL_law_331 xm_13_49 rfl rfl rfl rfl (Nat.le_of_ble_eq_true rfl) (pG_ok gu94) ⟨(Nat.le_of_ble_eq_true rfl), (Nat.le_of_ble_eq_true rfl)⟩ rfl (e_111 (d + 118) _ gh96 ⟨rfl, rfl⟩) gh98 ?_
                  refine wp_istore [some (.ref a0), some (.ref a1), some (.ref a2), some (.ref a3), some (.int a4), some (.int x97), none, none] xi_270 dL_law_334 rfl ?_
                  refine wp_aload_n xi_270 dL_law_336 rfl ?_
                  refine wp_aload_n xi_270 dL_law_337 rfl ?_
                  refine wp_iload xi_270 dL_law_338 rfl ?_
                  refine wp_iconst 1 xi_270 dL_law_340 rfl ?_
                  refine wp_iadd xi_270 dL_law_341 ?_
                  obtain ⟨x99, gx99, H⟩ := Option.bind_eq_some_iff.mp H
                  refine wq_iaload xi_270 dL_law_342 gx99 ?_
                  refine wp_aload_n xi_270 dL_law_343 rfl ?_
                  refine wp_iload xi_270 dL_law_344 rfl ?_
                  refine wp_iconst 2 xi_270 dL_law_346 rfl ?_
                  refine wp_iadd xi_270 dL_law_347 ?_
                  obtain ⟨x100, gx100, H⟩ := Option.bind_eq_some_iff.mp H
                  refine wq_iaload xi_270 dL_law_348 gx100 ?_
                  obtain ⟨u101, gu101, H⟩ := Option.bind_eq_some_iff.mp H
                  obtain ⟨⟨x103, h102⟩, gh102, H⟩ := Option.bind_eq_some_iff.mp H
                  dsimp only at H
                  refine wq_callV (a := a2) (as := [.int x99, .int x100]) (r := []) (v1 := (some (.int x103))) xi_270 xi_189 dL_law_349 xm_13_54 rfl (Nat.le_of_ble_eq_true rfl) (pG_ok gu101) ⟨(Nat.le_of_ble_eq_true rfl), (Nat.le_of_ble_eq_true rfl)⟩ rfl nofun (e_189 (d + 120) _ gh102 ⟨rfl, rfl⟩) ?_
                  change Wp _ _ _ _ [.int x103] _ _
                  refine wp_istore [some (.ref a0), some (.ref a1), some (.ref a2), some (.ref a3), some (.int a4), some (.int x97), some (.int x103), none] xi_270 dL_law_352 rfl ?_
                  refine wp_aload_n xi_270 dL_law_354 rfl ?_
                  obtain ⟨u104, gu104, H⟩ := Option.bind_eq_some_iff.mp H
                  obtain ⟨⟨x106, h105⟩, gh105, H⟩ := Option.bind_eq_some_iff.mp H
                  dsimp only at H
                  refine wq_callV (a := a2) (as := []) (r := []) (v1 := (some (.int x106))) xi_270 xi_160 dL_law_355 xm_13_55 rfl (Nat.le_of_ble_eq_true rfl) (pG_ok gu104) ⟨(Nat.le_of_ble_eq_true rfl), (Nat.le_of_ble_eq_true rfl)⟩ rfl nofun (e_160 (d + 123) _ gh105 ⟨rfl, rfl⟩) ?_
                  change Wp _ _ _ _ [.int x106] _ _
                  refine wp_iload xi_270 dL_law_358 rfl ?_
                  refine wp_icmp_eq 365 xi_270 dL_law_360 rfl (fun c107 => ?_) (fun c107 => ?_)
                  · rw [if_pos c107] at H
                    refine wp_iload xi_270 dL_law_365 rfl ?_
                    refine wp_if_ne 382 xi_270 dL_law_367 rfl (fun c108 => ?_) (fun c108 => ?_)
                    · rw [if_neg c108] at H
                      refine wp_goto 1348 xi_270 dL_law_382 rfl ?_
                      refine wp_iinc (a4 + 5) [some (.ref a0), some (.ref a1), some (.ref a2), some (.ref a3), some (.int (a4 + 5)), some (.int x97), some (.int x103), none] xi_270 dL_law_1348 rfl rfl rfl ?_
                      refine wp_goto 23 xi_270 dL_law_1351 rfl ?_
                      exact Wp.more (by simp [xMore, Value.category]) (ih a0 a1 a2 a3 (a4 + 5) h105 _ H KE KR)
                    · rw [if_pos c108] at H
                      refine wp_aload_n xi_270 dL_law_370 rfl ?_
                      refine wp_iconst 0 xi_270 dL_law_371 rfl ?_
                      obtain ⟨x109, gx109, H⟩ := Option.bind_eq_some_iff.mp H
                      refine wq_laload xi_270 dL_law_372 gx109 ?_
                      refine wp_iload xi_270 dL_law_373 rfl ?_
                      refine wp_i2l xi_270 dL_law_375 ?_
                      refine wp_lcmp xi_270 dL_law_376 ?_
                      refine wp_if_eq 382 xi_270 dL_law_377 rfl (fun c110 => ?_) (fun c110 => ?_)
                      · rw [if_pos c110] at H
                        refine wp_goto 1348 xi_270 dL_law_382 rfl ?_
                        refine wp_iinc (a4 + 5) [some (.ref a0), some (.ref a1), some (.ref a2), some (.ref a3), some (.int (a4 + 5)), some (.int x97), some (.int x103), none] xi_270 dL_law_1348 rfl rfl rfl ?_
                        refine wp_goto 23 xi_270 dL_law_1351 rfl ?_
                        exact Wp.more (by simp [xMore, Value.category]) (ih a0 a1 a2 a3 (a4 + 5) h105 _ H KE KR)
                      · rw [if_neg c110] at H
                        refine wp_iconst 0 xi_270 dL_law_380 rfl ?_
                        obtain ⟨q111, gq111, H⟩ := Option.bind_eq_some_iff.mp H
                        obtain ⟨gz, rfl⟩ := pZ_ok gq111
                        obtain rfl := Option.some.inj H
                        exact wp_zret xi_270 dL_law_381 gz (KR _ _ rfl)
                  · rw [if_neg c107] at H
                    refine wp_iconst 0 xi_270 dL_law_363 rfl ?_
                    obtain ⟨q112, gq112, H⟩ := Option.bind_eq_some_iff.mp H
                    obtain ⟨gz, rfl⟩ := pZ_ok gq112
                    obtain rfl := Option.some.inj H
                    exact wp_zret xi_270 dL_law_364 gz (KR _ _ rfl)
                · rw [if_neg c9] at H
                  by_cases c10 : (x3 &&& 63) = 6
                  · rw [if_pos c10] at H
                    refine Wp.pure (p2 := 385) (ls2 := [some (.ref a0), some (.ref a1), some (.ref a2), some (.ref a3), some (.int a4), none, none, none]) (st2 := []) (h2 := h) xi_270 dL_law_39 rfl rfl rfl (by rw [c10]; rfl) ?_
                    refine wp_aload_n xi_270 dL_law_385 rfl ?_
                    refine wp_aload_n xi_270 dL_law_386 rfl ?_
                    refine wp_iload xi_270 dL_law_387 rfl ?_
                    refine wp_iconst 1 xi_270 dL_law_389 rfl ?_
                    refine wp_iadd xi_270 dL_law_390 ?_
                    obtain ⟨x113, gx113, H⟩ := Option.bind_eq_some_iff.mp H
                    refine wq_iaload xi_270 dL_law_391 gx113 ?_
                    refine wp_aload_n xi_270 dL_law_392 rfl ?_
                    refine wp_iload xi_270 dL_law_393 rfl ?_
                    refine wp_iconst 2 xi_270 dL_law_395 rfl ?_
                    refine wp_iadd xi_270 dL_law_396 ?_
                    obtain ⟨x114, gx114, H⟩ := Option.bind_eq_some_iff.mp H
                    refine wq_iaload xi_270 dL_law_397 gx114 ?_
                    refine wp_aload_n xi_270 dL_law_398 rfl ?_
                    obtain ⟨u115, gu115, H⟩ := Option.bind_eq_some_iff.mp H
                    obtain ⟨⟨q116, h117⟩, gh117, H⟩ := Option.bind_eq_some_iff.mp H
                    dsimp only at H
                    obtain ⟨⟨x118, h119⟩, gh119, H⟩ := Option.bind_eq_some_iff.mp H
                    dsimp only at H
                    refine wq_try (N := 113) (a := a1) (as := [.int x113, .int x114]) (r := []) (v1 := (some (xOi q116))) xi_270 xi_113 dL_law_399 xm_13_58 rfl rfl rfl rfl (Nat.le_of_ble_eq_true rfl) (pG_ok gu115) ⟨(Nat.le_of_ble_eq_true rfl), (Nat.le_of_ble_eq_true rfl)⟩ rfl (e_113 (d + 120) _ gh117 ⟨rfl, rfl⟩) gh119 ?_
                    refine wp_istore [some (.ref a0), some (.ref a1), some (.ref a2), some (.ref a3), some (.int a4), some (.int x118), none, none] xi_270 dL_law_402 rfl ?_
                    refine wp_aload_n xi_270 dL_law_404 rfl ?_
                    refine wp_aload_n xi_270 dL_law_405 rfl ?_
                    refine wp_iload xi_270 dL_law_406 rfl ?_
                    refine wp_iconst 1 xi_270 dL_law_408 rfl ?_
                    refine wp_iadd xi_270 dL_law_409 ?_
                    obtain ⟨x120, gx120, H⟩ := Option.bind_eq_some_iff.mp H
                    refine wq_iaload xi_270 dL_law_410 gx120 ?_
                    refine wp_aload_n xi_270 dL_law_411 rfl ?_
                    refine wp_iload xi_270 dL_law_412 rfl ?_
                    refine wp_iconst 2 xi_270 dL_law_414 rfl ?_
                    refine wp_iadd xi_270 dL_law_415 ?_
                    obtain ⟨x121, gx121, H⟩ := Option.bind_eq_some_iff.mp H
                    refine wq_iaload xi_270 dL_law_416 gx121 ?_
                    obtain ⟨u122, gu122, H⟩ := Option.bind_eq_some_iff.mp H
                    obtain ⟨⟨x124, h123⟩, gh123, H⟩ := Option.bind_eq_some_iff.mp H
                    dsimp only at H
                    refine wq_callV (a := a2) (as := [.int x120, .int x121]) (r := []) (v1 := (some (.int x124))) xi_270 xi_191 dL_law_417 xm_13_60 rfl (Nat.le_of_ble_eq_true rfl) (pG_ok gu122) ⟨(Nat.le_of_ble_eq_true rfl), (Nat.le_of_ble_eq_true rfl)⟩ rfl nofun (e_191 (d + 121) _ gh123 ⟨rfl, rfl⟩) ?_
                    change Wp _ _ _ _ [.int x124] _ _
                    refine wp_istore [some (.ref a0), some (.ref a1), some (.ref a2), some (.ref a3), some (.int a4), some (.int x118), some (.int x124), none] xi_270 dL_law_420 rfl ?_
                    refine wp_aload_n xi_270 dL_law_422 rfl ?_
                    obtain ⟨u125, gu125, H⟩ := Option.bind_eq_some_iff.mp H
                    obtain ⟨⟨x127, h126⟩, gh126, H⟩ := Option.bind_eq_some_iff.mp H
                    dsimp only at H
                    refine wq_callV (a := a2) (as := []) (r := []) (v1 := (some (.int x127))) xi_270 xi_160 dL_law_423 xm_13_55 rfl (Nat.le_of_ble_eq_true rfl) (pG_ok gu125) ⟨(Nat.le_of_ble_eq_true rfl), (Nat.le_of_ble_eq_true rfl)⟩ rfl nofun (e_160 (d + 123) _ gh126 ⟨rfl, rfl⟩) ?_
                    change Wp _ _ _ _ [.int x127] _ _
                    refine wp_iload xi_270 dL_law_426 rfl ?_
                    refine wp_icmp_eq 433 xi_270 dL_law_428 rfl (fun c128 => ?_) (fun c128 => ?_)
                    · rw [if_pos c128] at H
                      refine wp_iload xi_270 dL_law_433 rfl ?_
                      refine wp_if_ne 450 xi_270 dL_law_435 rfl (fun c129 => ?_) (fun c129 => ?_)
                      · rw [if_neg c129] at H
                        refine wp_goto 1348 xi_270 dL_law_450 rfl ?_
                        refine wp_iinc (a4 + 5) [some (.ref a0), some (.ref a1), some (.ref a2), some (.ref a3), some (.int (a4 + 5)), some (.int x118), some (.int x124), none] xi_270 dL_law_1348 rfl rfl rfl ?_
                        refine wp_goto 23 xi_270 dL_law_1351 rfl ?_
                        exact Wp.more (by simp [xMore, Value.category]) (ih a0 a1 a2 a3 (a4 + 5) h126 _ H KE KR)
                      · rw [if_pos c129] at H
                        refine wp_aload_n xi_270 dL_law_438 rfl ?_
                        refine wp_iconst 0 xi_270 dL_law_439 rfl ?_
                        obtain ⟨x130, gx130, H⟩ := Option.bind_eq_some_iff.mp H
                        refine wq_laload xi_270 dL_law_440 gx130 ?_
                        refine wp_iload xi_270 dL_law_441 rfl ?_
                        refine wp_i2l xi_270 dL_law_443 ?_
                        refine wp_lcmp xi_270 dL_law_444 ?_
                        refine wp_if_eq 450 xi_270 dL_law_445 rfl (fun c131 => ?_) (fun c131 => ?_)
                        · rw [if_pos c131] at H
                          refine wp_goto 1348 xi_270 dL_law_450 rfl ?_
                          refine wp_iinc (a4 + 5) [some (.ref a0), some (.ref a1), some (.ref a2), some (.ref a3), some (.int (a4 + 5)), some (.int x118), some (.int x124), none] xi_270 dL_law_1348 rfl rfl rfl ?_
                          refine wp_goto 23 xi_270 dL_law_1351 rfl ?_
                          exact Wp.more (by simp [xMore, Value.category]) (ih a0 a1 a2 a3 (a4 + 5) h126 _ H KE KR)
                        · rw [if_neg c131] at H
                          refine wp_iconst 0 xi_270 dL_law_448 rfl ?_
                          obtain ⟨q132, gq132, H⟩ := Option.bind_eq_some_iff.mp H
                          obtain ⟨gz, rfl⟩ := pZ_ok gq132
                          obtain rfl := Option.some.inj H
                          exact wp_zret xi_270 dL_law_449 gz (KR _ _ rfl)
                    · rw [if_neg c128] at H
                      refine wp_iconst 0 xi_270 dL_law_431 rfl ?_
                      obtain ⟨q133, gq133, H⟩ := Option.bind_eq_some_iff.mp H
                      obtain ⟨gz, rfl⟩ := pZ_ok gq133
                      obtain rfl := Option.some.inj H
                      exact wp_zret xi_270 dL_law_432 gz (KR _ _ rfl)
                  · rw [if_neg c10] at H
                    by_cases c11 : (x3 &&& 63) = 7
                    · rw [if_pos c11] at H
                      refine Wp.pure (p2 := 453) (ls2 := [some (.ref a0), some (.ref a1), some (.ref a2), some (.ref a3), some (.int a4), none, none, none]) (st2 := []) (h2 := h) xi_270 dL_law_39 rfl rfl rfl (by rw [c11]; rfl) ?_
                      refine wp_aload_n xi_270 dL_law_453 rfl ?_
                      refine wp_aload_n xi_270 dL_law_454 rfl ?_
                      refine wp_iload xi_270 dL_law_455 rfl ?_
                      refine wp_iconst 1 xi_270 dL_law_457 rfl ?_
                      refine wp_iadd xi_270 dL_law_458 ?_
                      obtain ⟨x134, gx134, H⟩ := Option.bind_eq_some_iff.mp H
                      refine wq_iaload xi_270 dL_law_459 gx134 ?_
                      refine wp_aload_n xi_270 dL_law_460 rfl ?_
                      refine wp_iload xi_270 dL_law_461 rfl ?_
                      refine wp_iconst 2 xi_270 dL_law_463 rfl ?_
                      refine wp_iadd xi_270 dL_law_464 ?_
                      obtain ⟨x135, gx135, H⟩ := Option.bind_eq_some_iff.mp H
                      refine wq_iaload xi_270 dL_law_465 gx135 ?_
                      obtain ⟨u136, gu136, H⟩ := Option.bind_eq_some_iff.mp H
                      obtain ⟨⟨x138, h137⟩, gh137, H⟩ := Option.bind_eq_some_iff.mp H
                      dsimp only at H
                      refine wq_callV (a := a1) (as := [.int x134, .int x135]) (r := []) (v1 := (some (.int x138))) xi_270 xi_114 dL_law_466 xm_13_61 rfl (Nat.le_of_ble_eq_true rfl) (pG_ok gu136) ⟨(Nat.le_of_ble_eq_true rfl), (Nat.le_of_ble_eq_true rfl)⟩ rfl nofun (e_114 (d + 120) _ gh137 ⟨rfl, rfl⟩) ?_
                      change Wp _ _ _ _ [.int x138] _ _
                      refine wp_aload_n xi_270 dL_law_469 rfl ?_
                      refine wp_aload_n xi_270 dL_law_470 rfl ?_
                      refine wp_iload xi_270 dL_law_471 rfl ?_
                      refine wp_iconst 1 xi_270 dL_law_473 rfl ?_
                      refine wp_iadd xi_270 dL_law_474 ?_
                      obtain ⟨x139, gx139, H⟩ := Option.bind_eq_some_iff.mp H
                      refine wq_iaload xi_270 dL_law_475 gx139 ?_
                      refine wp_aload_n xi_270 dL_law_476 rfl ?_
                      refine wp_iload xi_270 dL_law_477 rfl ?_
                      refine wp_iconst 2 xi_270 dL_law_479 rfl ?_
                      refine wp_iadd xi_270 dL_law_480 ?_
                      obtain ⟨x140, gx140, H⟩ := Option.bind_eq_some_iff.mp H
                      refine wq_iaload xi_270 dL_law_481 gx140 ?_
                      obtain ⟨u141, gu141, H⟩ := Option.bind_eq_some_iff.mp H
                      obtain ⟨⟨x143, h142⟩, gh142, H⟩ := Option.bind_eq_some_iff.mp H
                      dsimp only at H
                      refine wq_callV (a := a2) (as := [.int x139, .int x140]) (r := [.int x138]) (v1 := (some (.int x143))) xi_270 xi_192 dL_law_482 xm_13_64 rfl (Nat.le_of_ble_eq_true rfl) (pG_ok gu141) ⟨(Nat.le_of_ble_eq_true rfl), (Nat.le_of_ble_eq_true rfl)⟩ rfl nofun (e_192 (d + 121) _ gh142 ⟨rfl, rfl⟩) ?_
                      change Wp _ _ _ _ [.int x143, .int x138] _ _
                      refine wp_icmp_eq 1348 xi_270 dL_law_485 rfl (fun c144 => ?_) (fun c144 => ?_)
                      · rw [if_pos c144] at H
                        refine wp_iinc (a4 + 5) [some (.ref a0), some (.ref a1), some (.ref a2), some (.ref a3), some (.int (a4 + 5)), none, none, none] xi_270 dL_law_1348 rfl rfl rfl ?_
                        refine wp_goto 23 xi_270 dL_law_1351 rfl ?_
                        exact Wp.more (by simp [xMore, Value.category]) (ih a0 a1 a2 a3 (a4 + 5) h142 _ H KE KR)
                      · rw [if_neg c144] at H
                        refine wp_iconst 0 xi_270 dL_law_488 rfl ?_
                        obtain ⟨q145, gq145, H⟩ := Option.bind_eq_some_iff.mp H
                        obtain ⟨gz, rfl⟩ := pZ_ok gq145
                        obtain rfl := Option.some.inj H
                        exact wp_zret xi_270 dL_law_489 gz (KR _ _ rfl)
                    · rw [if_neg c11] at H
                      by_cases c12 : (x3 &&& 63) = 8
                      · rw [if_pos c12] at H
                        refine Wp.pure (p2 := 490) (ls2 := [some (.ref a0), some (.ref a1), some (.ref a2), some (.ref a3), some (.int a4), none, none, none]) (st2 := []) (h2 := h) xi_270 dL_law_39 rfl rfl rfl (by rw [c12]; rfl) ?_
                        refine wp_aload_n xi_270 dL_law_490 rfl ?_
                        refine wp_aload_n xi_270 dL_law_491 rfl ?_
                        refine wp_iload xi_270 dL_law_492 rfl ?_
                        refine wp_iconst 1 xi_270 dL_law_494 rfl ?_
                        refine wp_iadd xi_270 dL_law_495 ?_
                        obtain ⟨x146, gx146, H⟩ := Option.bind_eq_some_iff.mp H
                        refine wq_iaload xi_270 dL_law_496 gx146 ?_
                        refine wp_aload_n xi_270 dL_law_497 rfl ?_
                        refine wp_iload xi_270 dL_law_498 rfl ?_
                        refine wp_iconst 2 xi_270 dL_law_500 rfl ?_
                        refine wp_iadd xi_270 dL_law_501 ?_
                        obtain ⟨x147, gx147, H⟩ := Option.bind_eq_some_iff.mp H
                        refine wq_iaload xi_270 dL_law_502 gx147 ?_
                        refine wp_aload_n xi_270 dL_law_503 rfl ?_
                        refine wp_iload xi_270 dL_law_504 rfl ?_
                        refine wp_iconst 3 xi_270 dL_law_506 rfl ?_
                        refine wp_iadd xi_270 dL_law_507 ?_
                        obtain ⟨x148, gx148, H⟩ := Option.bind_eq_some_iff.mp H
                        refine wq_iaload xi_270 dL_law_508 gx148 ?_
                        refine wp_aload_n xi_270 dL_law_509 rfl ?_
                        refine wp_iload xi_270 dL_law_510 rfl ?_
                        refine wp_iconst 4 xi_270 dL_law_512 rfl ?_
                        refine wp_iadd xi_270 dL_law_513 ?_
                        obtain ⟨x149, gx149, H⟩ := Option.bind_eq_some_iff.mp H
                        refine wq_iaload xi_270 dL_law_514 gx149 ?_
                        obtain ⟨u150, gu150, H⟩ := Option.bind_eq_some_iff.mp H
                        obtain ⟨⟨x152, h151⟩, gh151, H⟩ := Option.bind_eq_some_iff.mp H
                        dsimp only at H
                        refine wq_callV (a := a1) (as := [.int x146, .int x147, .int x148, .int x149]) (r := []) (v1 := (some (.int x152))) xi_270 xi_115 dL_law_515 xm_13_65 rfl (Nat.le_of_ble_eq_true rfl) (pG_ok gu150) ⟨(Nat.le_of_ble_eq_true rfl), (Nat.le_of_ble_eq_true rfl)⟩ rfl nofun (e_115 (d + 119) _ gh151 ⟨rfl, rfl⟩) ?_
                        change Wp _ _ _ _ [.int x152] _ _
                        refine wp_aload_n xi_270 dL_law_518 rfl ?_
                        refine wp_aload_n xi_270 dL_law_519 rfl ?_
                        refine wp_iload xi_270 dL_law_520 rfl ?_
                        refine wp_iconst 1 xi_270 dL_law_522 rfl ?_
                        refine wp_iadd xi_270 dL_law_523 ?_
                        obtain ⟨x153, gx153, H⟩ := Option.bind_eq_some_iff.mp H
                        refine wq_iaload xi_270 dL_law_524 gx153 ?_
                        refine wp_aload_n xi_270 dL_law_525 rfl ?_
                        refine wp_iload xi_270 dL_law_526 rfl ?_
                        refine wp_iconst 2 xi_270 dL_law_528 rfl ?_
                        refine wp_iadd xi_270 dL_law_529 ?_
                        obtain ⟨x154, gx154, H⟩ := Option.bind_eq_some_iff.mp H
                        refine wq_iaload xi_270 dL_law_530 gx154 ?_
                        refine wp_aload_n xi_270 dL_law_531 rfl ?_
                        refine wp_iload xi_270 dL_law_532 rfl ?_
                        refine wp_iconst 3 xi_270 dL_law_534 rfl ?_
                        refine wp_iadd xi_270 dL_law_535 ?_
                        obtain ⟨x155, gx155, H⟩ := Option.bind_eq_some_iff.mp H
                        refine wq_iaload xi_270 dL_law_536 gx155 ?_
                        refine wp_aload_n xi_270 dL_law_537 rfl ?_
                        refine wp_iload xi_270 dL_law_538 rfl ?_
                        refine wp_iconst 4 xi_270 dL_law_540 rfl ?_
                        refine wp_iadd xi_270 dL_law_541 ?_
                        obtain ⟨x156, gx156, H⟩ := Option.bind_eq_some_iff.mp H
                        refine wq_iaload xi_270 dL_law_542 gx156 ?_
                        obtain ⟨u157, gu157, H⟩ := Option.bind_eq_some_iff.mp H
                        obtain ⟨⟨x159, h158⟩, gh158, H⟩ := Option.bind_eq_some_iff.mp H
                        dsimp only at H
                        refine wq_callV (a := a2) (as := [.int x153, .int x154, .int x155, .int x156]) (r := [.int x152]) (v1 := (some (.int x159))) xi_270 xi_193 dL_law_543 xm_13_69 rfl (Nat.le_of_ble_eq_true rfl) (pG_ok gu157) ⟨(Nat.le_of_ble_eq_true rfl), (Nat.le_of_ble_eq_true rfl)⟩ rfl nofun (e_193 (d + 122) _ gh158 ⟨rfl, rfl⟩) ?_
                        change Wp _ _ _ _ [.int x159, .int x152] _ _
                        refine wp_icmp_eq 1348 xi_270 dL_law_546 rfl (fun c160 => ?_) (fun c160 => ?_)
                        · rw [if_pos c160] at H
                          refine wp_iinc (a4 + 5) [some (.ref a0), some (.ref a1), some (.ref a2), some (.ref a3), some (.int (a4 + 5)), none, none, none] xi_270 dL_law_1348 rfl rfl rfl ?_
                          refine wp_goto 23 xi_270 dL_law_1351 rfl ?_
                          exact Wp.more (by simp [xMore, Value.category]) (ih a0 a1 a2 a3 (a4 + 5) h158 _ H KE KR)
                        · rw [if_neg c160] at H
                          refine wp_iconst 0 xi_270 dL_law_549 rfl ?_
                          obtain ⟨q161, gq161, H⟩ := Option.bind_eq_some_iff.mp H
                          obtain ⟨gz, rfl⟩ := pZ_ok gq161
                          obtain rfl := Option.some.inj H
                          exact wp_zret xi_270 dL_law_550 gz (KR _ _ rfl)
                      · rw [if_neg c12] at H
                        by_cases c13 : (x3 &&& 63) = 9
                        · rw [if_pos c13] at H
                          refine Wp.pure (p2 := 551) (ls2 := [some (.ref a0), some (.ref a1), some (.ref a2), some (.ref a3), some (.int a4), none, none, none]) (st2 := []) (h2 := h) xi_270 dL_law_39 rfl rfl rfl (by rw [c13]; rfl) ?_
                          refine wp_aload_n xi_270 dL_law_551 rfl ?_
                          refine wp_aload_n xi_270 dL_law_552 rfl ?_
                          refine wp_iload xi_270 dL_law_553 rfl ?_
                          refine wp_iconst 1 xi_270 dL_law_555 rfl ?_
                          refine wp_iadd xi_270 dL_law_556 ?_
                          obtain ⟨x162, gx162, H⟩ := Option.bind_eq_some_iff.mp H
                          refine wq_iaload xi_270 dL_law_557 gx162 ?_
                          refine wp_aload_n xi_270 dL_law_558 rfl ?_
                          refine wp_iload xi_270 dL_law_559 rfl ?_
                          refine wp_iconst 2 xi_270 dL_law_561 rfl ?_
                          refine wp_iadd xi_270 dL_law_562 ?_
                          obtain ⟨x163, gx163, H⟩ := Option.bind_eq_some_iff.mp H
                          refine wq_iaload xi_270 dL_law_563 gx163 ?_
                          obtain ⟨u164, gu164, H⟩ := Option.bind_eq_some_iff.mp H
                          obtain ⟨⟨x166, h165⟩, gh165, H⟩ := Option.bind_eq_some_iff.mp H
                          dsimp only at H
                          refine wq_callV (a := a1) (as := [.int x162, .int x163]) (r := []) (v1 := (some (.int x166))) xi_270 xi_118 dL_law_564 xm_13_70 rfl (Nat.le_of_ble_eq_true rfl) (pG_ok gu164) ⟨(Nat.le_of_ble_eq_true rfl), (Nat.le_of_ble_eq_true rfl)⟩ rfl nofun (e_118 (d + 123) _ gh165 ⟨rfl, rfl⟩) ?_
                          change Wp _ _ _ _ [.int x166] _ _
                          refine wp_aload_n xi_270 dL_law_567 rfl ?_
                          refine wp_aload_n xi_270 dL_law_568 rfl ?_
                          refine wp_iload xi_270 dL_law_569 rfl ?_
                          refine wp_iconst 1 xi_270 dL_law_571 rfl ?_
                          refine wp_iadd xi_270 dL_law_572 ?_
                          obtain ⟨x167, gx167, H⟩ := Option.bind_eq_some_iff.mp H
                          refine wq_iaload xi_270 dL_law_573 gx167 ?_
                          refine wp_aload_n xi_270 dL_law_574 rfl ?_
                          refine wp_iload xi_270 dL_law_575 rfl ?_
                          refine wp_iconst 2 xi_270 dL_law_577 rfl ?_
                          refine wp_iadd xi_270 dL_law_578 ?_
                          obtain ⟨x168, gx168, H⟩ := Option.bind_eq_some_iff.mp H
                          refine wq_iaload xi_270 dL_law_579 gx168 ?_
                          obtain ⟨u169, gu169, H⟩ := Option.bind_eq_some_iff.mp H
                          obtain ⟨⟨x171, h170⟩, gh170, H⟩ := Option.bind_eq_some_iff.mp H
                          dsimp only at H
                          refine wq_callV (a := a2) (as := [.int x167, .int x168]) (r := [.int x166]) (v1 := (some (.int x171))) xi_270 xi_194 dL_law_580 xm_13_74 rfl (Nat.le_of_ble_eq_true rfl) (pG_ok gu169) ⟨(Nat.le_of_ble_eq_true rfl), (Nat.le_of_ble_eq_true rfl)⟩ rfl nofun (e_194 (d + 122) _ gh170 ⟨rfl, rfl⟩) ?_
                          change Wp _ _ _ _ [.int x171, .int x166] _ _
                          refine wp_icmp_eq 1348 xi_270 dL_law_583 rfl (fun c172 => ?_) (fun c172 => ?_)
                          · rw [if_pos c172] at H
                            refine wp_iinc (a4 + 5) [some (.ref a0), some (.ref a1), some (.ref a2), some (.ref a3), some (.int (a4 + 5)), none, none, none] xi_270 dL_law_1348 rfl rfl rfl ?_
                            refine wp_goto 23 xi_270 dL_law_1351 rfl ?_
                            exact Wp.more (by simp [xMore, Value.category]) (ih a0 a1 a2 a3 (a4 + 5) h170 _ H KE KR)
                          · rw [if_neg c172] at H
                            refine wp_iconst 0 xi_270 dL_law_586 rfl ?_
                            obtain ⟨q173, gq173, H⟩ := Option.bind_eq_some_iff.mp H
                            obtain ⟨gz, rfl⟩ := pZ_ok gq173
                            obtain rfl := Option.some.inj H
                            exact wp_zret xi_270 dL_law_587 gz (KR _ _ rfl)
                        · rw [if_neg c13] at H
                          by_cases c14 : (x3 &&& 63) = 10
                          · rw [if_pos c14] at H
                            refine Wp.pure (p2 := 588) (ls2 := [some (.ref a0), some (.ref a1), some (.ref a2), some (.ref a3), some (.int a4), none, none, none]) (st2 := []) (h2 := h) xi_270 dL_law_39 rfl rfl rfl (by rw [c14]; rfl) ?_
                            refine wp_aload_n xi_270 dL_law_588 rfl ?_
                            refine wp_aload_n xi_270 dL_law_589 rfl ?_
                            refine wp_iload xi_270 dL_law_590 rfl ?_
                            refine wp_iconst 1 xi_270 dL_law_592 rfl ?_
                            refine wp_iadd xi_270 dL_law_593 ?_
                            obtain ⟨x174, gx174, H⟩ := Option.bind_eq_some_iff.mp H
                            refine wq_iaload xi_270 dL_law_594 gx174 ?_
                            refine wp_aload_n xi_270 dL_law_595 rfl ?_
                            refine wp_iload xi_270 dL_law_596 rfl ?_
                            refine wp_iconst 2 xi_270 dL_law_598 rfl ?_
                            refine wp_iadd xi_270 dL_law_599 ?_
                            obtain ⟨x175, gx175, H⟩ := Option.bind_eq_some_iff.mp H
                            refine wq_iaload xi_270 dL_law_600 gx175 ?_
                            obtain ⟨u176, gu176, H⟩ := Option.bind_eq_some_iff.mp H
                            obtain ⟨⟨x178, h177⟩, gh177, H⟩ := Option.bind_eq_some_iff.mp H
                            dsimp only at H
                            refine wq_callV (a := a1) (as := [.int x174, .int x175]) (r := []) (v1 := (some (.int x178))) xi_270 xi_119 dL_law_601 xm_13_75 rfl (Nat.le_of_ble_eq_true rfl) (pG_ok gu176) ⟨(Nat.le_of_ble_eq_true rfl), (Nat.le_of_ble_eq_true rfl)⟩ rfl nofun (e_119 (d + 120) _ gh177 ⟨rfl, rfl⟩) ?_
                            change Wp _ _ _ _ [.int x178] _ _
                            refine wp_aload_n xi_270 dL_law_604 rfl ?_
                            refine wp_aload_n xi_270 dL_law_605 rfl ?_
                            refine wp_iload xi_270 dL_law_606 rfl ?_
                            refine wp_iconst 1 xi_270 dL_law_608 rfl ?_
                            refine wp_iadd xi_270 dL_law_609 ?_
                            obtain ⟨x179, gx179, H⟩ := Option.bind_eq_some_iff.mp H
                            refine wq_iaload xi_270 dL_law_610 gx179 ?_
                            refine wp_aload_n xi_270 dL_law_611 rfl ?_
                            refine wp_iload xi_270 dL_law_612 rfl ?_
                            refine wp_iconst 2 xi_270 dL_law_614 rfl ?_
                            refine wp_iadd xi_270 dL_law_615 ?_
                            obtain ⟨x180, gx180, H⟩ := Option.bind_eq_some_iff.mp H
                            refine wq_iaload xi_270 dL_law_616 gx180 ?_
                            obtain ⟨u181, gu181, H⟩ := Option.bind_eq_some_iff.mp H
                            obtain ⟨⟨x183, h182⟩, gh182, H⟩ := Option.bind_eq_some_iff.mp H
                            dsimp only at H
                            refine wq_callV (a := a2) (as := [.int x179, .int x180]) (r := [.int x178]) (v1 := (some (.int x183))) xi_270 xi_195 dL_law_617 xm_13_78 rfl (Nat.le_of_ble_eq_true rfl) (pG_ok gu181) ⟨(Nat.le_of_ble_eq_true rfl), (Nat.le_of_ble_eq_true rfl)⟩ rfl nofun (e_195 (d + 121) _ gh182 ⟨rfl, rfl⟩) ?_
                            change Wp _ _ _ _ [.int x183, .int x178] _ _
                            refine wp_icmp_eq 1348 xi_270 dL_law_620 rfl (fun c184 => ?_) (fun c184 => ?_)
                            · rw [if_pos c184] at H
                              refine wp_iinc (a4 + 5) [some (.ref a0), some (.ref a1), some (.ref a2), some (.ref a3), some (.int (a4 + 5)), none, none, none] xi_270 dL_law_1348 rfl rfl rfl ?_
                              refine wp_goto 23 xi_270 dL_law_1351 rfl ?_
                              exact Wp.more (by simp [xMore, Value.category]) (ih a0 a1 a2 a3 (a4 + 5) h182 _ H KE KR)
                            · rw [if_neg c184] at H
                              refine wp_iconst 0 xi_270 dL_law_623 rfl ?_
                              obtain ⟨q185, gq185, H⟩ := Option.bind_eq_some_iff.mp H
                              obtain ⟨gz, rfl⟩ := pZ_ok gq185
                              obtain rfl := Option.some.inj H
                              exact wp_zret xi_270 dL_law_624 gz (KR _ _ rfl)
                          · rw [if_neg c14] at H
                            by_cases c15 : (x3 &&& 63) = 11
                            · rw [if_pos c15] at H
                              refine Wp.pure (p2 := 625) (ls2 := [some (.ref a0), some (.ref a1), some (.ref a2), some (.ref a3), some (.int a4), none, none, none]) (st2 := []) (h2 := h) xi_270 dL_law_39 rfl rfl rfl (by rw [c15]; rfl) ?_
                              refine wp_aload_n xi_270 dL_law_625 rfl ?_
                              refine wp_aload_n xi_270 dL_law_626 rfl ?_
                              refine wp_iload xi_270 dL_law_627 rfl ?_
                              refine wp_iconst 1 xi_270 dL_law_629 rfl ?_
                              refine wp_iadd xi_270 dL_law_630 ?_
                              obtain ⟨x186, gx186, H⟩ := Option.bind_eq_some_iff.mp H
                              refine wq_iaload xi_270 dL_law_631 gx186 ?_
                              obtain ⟨u187, gu187, H⟩ := Option.bind_eq_some_iff.mp H
                              obtain ⟨⟨x189, h188⟩, gh188, H⟩ := Option.bind_eq_some_iff.mp H
                              dsimp only at H
                              refine wq_callV (a := a1) (as := [.int x186]) (r := []) (v1 := (some (.int x189))) xi_270 xi_120 dL_law_632 xm_13_79 rfl (Nat.le_of_ble_eq_true rfl) (pG_ok gu187) ⟨(Nat.le_of_ble_eq_true rfl), (Nat.le_of_ble_eq_true rfl)⟩ rfl nofun (e_120 (d + 121) _ gh188 ⟨rfl, rfl⟩) ?_
                              change Wp _ _ _ _ [.int x189] _ _
                              refine wp_aload_n xi_270 dL_law_635 rfl ?_
                              refine wp_aload_n xi_270 dL_law_636 rfl ?_
                              refine wp_iload xi_270 dL_law_637 rfl ?_
                              refine wp_iconst 1 xi_270 dL_law_639 rfl ?_
                              refine wp_iadd xi_270 dL_law_640 ?_
                              obtain ⟨x190, gx190, H⟩ := Option.bind_eq_some_iff.mp H
                              refine wq_iaload xi_270 dL_law_641 gx190 ?_
                              obtain ⟨u191, gu191, H⟩ := Option.bind_eq_some_iff.mp H
                              obtain ⟨⟨x193, h192⟩, gh192, H⟩ := Option.bind_eq_some_iff.mp H
                              dsimp only at H
                              refine wq_callV (a := a2) (as := [.int x190]) (r := [.int x189]) (v1 := (some (.int x193))) xi_270 xi_196 dL_law_642 xm_13_82 rfl (Nat.le_of_ble_eq_true rfl) (pG_ok gu191) ⟨(Nat.le_of_ble_eq_true rfl), (Nat.le_of_ble_eq_true rfl)⟩ rfl nofun (e_196 (d + 120) _ gh192 ⟨rfl, rfl⟩) ?_
                              change Wp _ _ _ _ [.int x193, .int x189] _ _
                              refine wp_icmp_eq 1348 xi_270 dL_law_645 rfl (fun c194 => ?_) (fun c194 => ?_)
                              · rw [if_pos c194] at H
                                refine wp_iinc (a4 + 5) [some (.ref a0), some (.ref a1), some (.ref a2), some (.ref a3), some (.int (a4 + 5)), none, none, none] xi_270 dL_law_1348 rfl rfl rfl ?_
                                refine wp_goto 23 xi_270 dL_law_1351 rfl ?_
                                exact Wp.more (by simp [xMore, Value.category]) (ih a0 a1 a2 a3 (a4 + 5) h192 _ H KE KR)
                              · rw [if_neg c194] at H
                                refine wp_iconst 0 xi_270 dL_law_648 rfl ?_
                                obtain ⟨q195, gq195, H⟩ := Option.bind_eq_some_iff.mp H
                                obtain ⟨gz, rfl⟩ := pZ_ok gq195
                                obtain rfl := Option.some.inj H
                                exact wp_zret xi_270 dL_law_649 gz (KR _ _ rfl)
                            · rw [if_neg c15] at H
                              by_cases c16 : (x3 &&& 63) = 12
                              · rw [if_pos c16] at H
                                refine Wp.pure (p2 := 650) (ls2 := [some (.ref a0), some (.ref a1), some (.ref a2), some (.ref a3), some (.int a4), none, none, none]) (st2 := []) (h2 := h) xi_270 dL_law_39 rfl rfl rfl (by rw [c16]; rfl) ?_
                                refine wp_aload_n xi_270 dL_law_650 rfl ?_
                                obtain ⟨u196, gu196, H⟩ := Option.bind_eq_some_iff.mp H
                                obtain ⟨⟨x198, h197⟩, gh197, H⟩ := Option.bind_eq_some_iff.mp H
                                dsimp only at H
                                refine wq_callV (a := a1) (as := []) (r := []) (v1 := (some (.int x198))) xi_270 xi_121 dL_law_651 xm_13_83 rfl (Nat.le_of_ble_eq_true rfl) (pG_ok gu196) ⟨(Nat.le_of_ble_eq_true rfl), (Nat.le_of_ble_eq_true rfl)⟩ rfl nofun (e_121 (d + 121) _ gh197 ⟨rfl, rfl⟩) ?_
                                change Wp _ _ _ _ [.int x198] _ _
                                refine wp_aload_n xi_270 dL_law_654 rfl ?_
                                obtain ⟨u199, gu199, H⟩ := Option.bind_eq_some_iff.mp H
                                obtain ⟨⟨x201, h200⟩, gh200, H⟩ := Option.bind_eq_some_iff.mp H
                                dsimp only at H
                                refine wq_callV (a := a2) (as := []) (r := [.int x198]) (v1 := (some (.int x201))) xi_270 xi_197 dL_law_655 xm_13_86 rfl (Nat.le_of_ble_eq_true rfl) (pG_ok gu199) ⟨(Nat.le_of_ble_eq_true rfl), (Nat.le_of_ble_eq_true rfl)⟩ rfl nofun (e_197 (d + 121) _ gh200 ⟨rfl, rfl⟩) ?_
                                change Wp _ _ _ _ [.int x201, .int x198] _ _
                                refine wp_icmp_eq 1348 xi_270 dL_law_658 rfl (fun c202 => ?_) (fun c202 => ?_)
                                · rw [if_pos c202] at H
                                  refine wp_iinc (a4 + 5) [some (.ref a0), some (.ref a1), some (.ref a2), some (.ref a3), some (.int (a4 + 5)), none, none, none] xi_270 dL_law_1348 rfl rfl rfl ?_
                                  refine wp_goto 23 xi_270 dL_law_1351 rfl ?_
                                  exact Wp.more (by simp [xMore, Value.category]) (ih a0 a1 a2 a3 (a4 + 5) h200 _ H KE KR)
                                · rw [if_neg c202] at H
                                  refine wp_iconst 0 xi_270 dL_law_661 rfl ?_
                                  obtain ⟨q203, gq203, H⟩ := Option.bind_eq_some_iff.mp H
                                  obtain ⟨gz, rfl⟩ := pZ_ok gq203
                                  obtain rfl := Option.some.inj H
                                  exact wp_zret xi_270 dL_law_662 gz (KR _ _ rfl)
                              · rw [if_neg c16] at H
                                by_cases c17 : (x3 &&& 63) = 13
                                · rw [if_pos c17] at H
                                  refine Wp.pure (p2 := 663) (ls2 := [some (.ref a0), some (.ref a1), some (.ref a2), some (.ref a3), some (.int a4), none, none, none]) (st2 := []) (h2 := h) xi_270 dL_law_39 rfl rfl rfl (by rw [c17]; rfl) ?_
                                  refine wp_aload_n xi_270 dL_law_663 rfl ?_
                                  obtain ⟨u204, gu204, H⟩ := Option.bind_eq_some_iff.mp H
                                  obtain ⟨⟨x206, h205⟩, gh205, H⟩ := Option.bind_eq_some_iff.mp H
                                  dsimp only at H
                                  refine wq_callV (a := a1) (as := []) (r := []) (v1 := (some (.int x206))) xi_270 xi_122 dL_law_664 xm_13_87 rfl (Nat.le_of_ble_eq_true rfl) (pG_ok gu204) ⟨(Nat.le_of_ble_eq_true rfl), (Nat.le_of_ble_eq_true rfl)⟩ rfl nofun (e_122 (d + 121) _ gh205 ⟨rfl, rfl⟩) ?_
                                  change Wp _ _ _ _ [.int x206] _ _
                                  refine wp_aload_n xi_270 dL_law_667 rfl ?_
                                  obtain ⟨u207, gu207, H⟩ := Option.bind_eq_some_iff.mp H
                                  obtain ⟨⟨x209, h208⟩, gh208, H⟩ := Option.bind_eq_some_iff.mp H
                                  dsimp only at H
                                  refine wq_callV (a := a2) (as := []) (r := [.int x206]) (v1 := (some (.int x209))) xi_270 xi_198 dL_law_668 xm_13_90 rfl (Nat.le_of_ble_eq_true rfl) (pG_ok gu207) ⟨(Nat.le_of_ble_eq_true rfl), (Nat.le_of_ble_eq_true rfl)⟩ rfl nofun (e_198 (d + 122) _ gh208 ⟨rfl, rfl⟩) ?_
                                  change Wp _ _ _ _ [.int x209, .int x206] _ _
                                  refine wp_icmp_eq 1348 xi_270 dL_law_671 rfl (fun c210 => ?_) (fun c210 => ?_)
                                  · rw [if_pos c210] at H
                                    refine wp_iinc (a4 + 5) [some (.ref a0), some (.ref a1), some (.ref a2), some (.ref a3), some (.int (a4 + 5)), none, none, none] xi_270 dL_law_1348 rfl rfl rfl ?_
                                    refine wp_goto 23 xi_270 dL_law_1351 rfl ?_
                                    exact Wp.more (by simp [xMore, Value.category]) (ih a0 a1 a2 a3 (a4 + 5) h208 _ H KE KR)
                                  · rw [if_neg c210] at H
                                    refine wp_iconst 0 xi_270 dL_law_674 rfl ?_
                                    obtain ⟨q211, gq211, H⟩ := Option.bind_eq_some_iff.mp H
                                    obtain ⟨gz, rfl⟩ := pZ_ok gq211
                                    obtain rfl := Option.some.inj H
                                    exact wp_zret xi_270 dL_law_675 gz (KR _ _ rfl)
                                · rw [if_neg c17] at H
                                  by_cases c18 : (x3 &&& 63) = 14
                                  · rw [if_pos c18] at H
                                    refine Wp.pure (p2 := 676) (ls2 := [some (.ref a0), some (.ref a1), some (.ref a2), some (.ref a3), some (.int a4), none, none, none]) (st2 := []) (h2 := h) xi_270 dL_law_39 rfl rfl rfl (by rw [c18]; rfl) ?_
                                    refine wp_aload_n xi_270 dL_law_676 rfl ?_
                                    obtain ⟨u212, gu212, H⟩ := Option.bind_eq_some_iff.mp H
                                    obtain ⟨⟨x214, h213⟩, gh213, H⟩ := Option.bind_eq_some_iff.mp H
                                    dsimp only at H
                                    refine wq_callV (a := a1) (as := []) (r := []) (v1 := (some (.int x214))) xi_270 xi_123 dL_law_677 xm_13_91 rfl (Nat.le_of_ble_eq_true rfl) (pG_ok gu212) ⟨(Nat.le_of_ble_eq_true rfl), (Nat.le_of_ble_eq_true rfl)⟩ rfl nofun (e_123 (d + 121) _ gh213 ⟨rfl, rfl⟩) ?_
                                    change Wp _ _ _ _ [.int x214] _ _
                                    refine wp_aload_n xi_270 dL_law_680 rfl ?_
                                    obtain ⟨u215, gu215, H⟩ := Option.bind_eq_some_iff.mp H
                                    obtain ⟨⟨x217, h216⟩, gh216, H⟩ := Option.bind_eq_some_iff.mp H
                                    dsimp only at H
                                    refine wq_callV (a := a2) (as := []) (r := [.int x214]) (v1 := (some (.int x217))) xi_270 xi_199 dL_law_681 xm_13_94 rfl (Nat.le_of_ble_eq_true rfl) (pG_ok gu215) ⟨(Nat.le_of_ble_eq_true rfl), (Nat.le_of_ble_eq_true rfl)⟩ rfl nofun (e_199 (d + 121) _ gh216 ⟨rfl, rfl⟩) ?_
                                    change Wp _ _ _ _ [.int x217, .int x214] _ _
                                    refine wp_icmp_eq 1348 xi_270 dL_law_684 rfl (fun c218 => ?_) (fun c218 => ?_)
                                    · rw [if_pos c218] at H
                                      refine wp_iinc (a4 + 5) [some (.ref a0), some (.ref a1), some (.ref a2), some (.ref a3), some (.int (a4 + 5)), none, none, none] xi_270 dL_law_1348 rfl rfl rfl ?_
                                      refine wp_goto 23 xi_270 dL_law_1351 rfl ?_
                                      exact Wp.more (by simp [xMore, Value.category]) (ih a0 a1 a2 a3 (a4 + 5) h216 _ H KE KR)
                                    · rw [if_neg c218] at H
                                      refine wp_iconst 0 xi_270 dL_law_687 rfl ?_
                                      obtain ⟨q219, gq219, H⟩ := Option.bind_eq_some_iff.mp H
                                      obtain ⟨gz, rfl⟩ := pZ_ok gq219
                                      obtain rfl := Option.some.inj H
                                      exact wp_zret xi_270 dL_law_688 gz (KR _ _ rfl)
                                  · rw [if_neg c18] at H
                                    by_cases c19 : (x3 &&& 63) = 15
                                    · rw [if_pos c19] at H
                                      refine Wp.pure (p2 := 689) (ls2 := [some (.ref a0), some (.ref a1), some (.ref a2), some (.ref a3), some (.int a4), none, none, none]) (st2 := []) (h2 := h) xi_270 dL_law_39 rfl rfl rfl (by rw [c19]; rfl) ?_
                                      refine wp_aload_n xi_270 dL_law_689 rfl ?_
                                      refine wp_aload_n xi_270 dL_law_690 rfl ?_
                                      refine wp_iload xi_270 dL_law_691 rfl ?_
                                      refine wp_iconst 1 xi_270 dL_law_693 rfl ?_
                                      refine wp_iadd xi_270 dL_law_694 ?_
                                      obtain ⟨x220, gx220, H⟩ := Option.bind_eq_some_iff.mp H
                                      refine wq_iaload xi_270 dL_law_695 gx220 ?_
                                      obtain ⟨u221, gu221, H⟩ := Option.bind_eq_some_iff.mp H
                                      obtain ⟨⟨x223, h222⟩, gh222, H⟩ := Option.bind_eq_some_iff.mp H
                                      dsimp only at H
                                      refine wq_callV (a := a1) (as := [.int x220]) (r := []) (v1 := (some (.int x223))) xi_270 xi_124 dL_law_696 xm_13_95 rfl (Nat.le_of_ble_eq_true rfl) (pG_ok gu221) ⟨(Nat.le_of_ble_eq_true rfl), (Nat.le_of_ble_eq_true rfl)⟩ rfl nofun (e_124 (d + 122) _ gh222 ⟨rfl, rfl⟩) ?_
                                      change Wp _ _ _ _ [.int x223] _ _
                                      refine wp_aload_n xi_270 dL_law_699 rfl ?_
                                      refine wp_aload_n xi_270 dL_law_700 rfl ?_
                                      refine wp_iload xi_270 dL_law_701 rfl ?_
                                      refine wp_iconst 1 xi_270 dL_law_703 rfl ?_
                                      refine wp_iadd xi_270 dL_law_704 ?_
                                      obtain ⟨x224, gx224, H⟩ := Option.bind_eq_some_iff.mp H
                                      refine wq_iaload xi_270 dL_law_705 gx224 ?_
                                      obtain ⟨u225, gu225, H⟩ := Option.bind_eq_some_iff.mp H
                                      obtain ⟨⟨x227, h226⟩, gh226, H⟩ := Option.bind_eq_some_iff.mp H
                                      dsimp only at H
                                      refine wq_callV (a := a2) (as := [.int x224]) (r := [.int x223]) (v1 := (some (.int x227))) xi_270 xi_200 dL_law_706 xm_13_98 rfl (Nat.le_of_ble_eq_true rfl) (pG_ok gu225) ⟨(Nat.le_of_ble_eq_true rfl), (Nat.le_of_ble_eq_true rfl)⟩ rfl nofun (e_200 (d + 122) _ gh226 ⟨rfl, rfl⟩) ?_
                                      change Wp _ _ _ _ [.int x227, .int x223] _ _
                                      refine wp_icmp_eq 1348 xi_270 dL_law_709 rfl (fun c228 => ?_) (fun c228 => ?_)
                                      · rw [if_pos c228] at H
                                        refine wp_iinc (a4 + 5) [some (.ref a0), some (.ref a1), some (.ref a2), some (.ref a3), some (.int (a4 + 5)), none, none, none] xi_270 dL_law_1348 rfl rfl rfl ?_
                                        refine wp_goto 23 xi_270 dL_law_1351 rfl ?_
                                        exact Wp.more (by simp [xMore, Value.category]) (ih a0 a1 a2 a3 (a4 + 5) h226 _ H KE KR)
                                      · rw [if_neg c228] at H
                                        refine wp_iconst 0 xi_270 dL_law_712 rfl ?_
                                        obtain ⟨q229, gq229, H⟩ := Option.bind_eq_some_iff.mp H
                                        obtain ⟨gz, rfl⟩ := pZ_ok gq229
                                        obtain rfl := Option.some.inj H
                                        exact wp_zret xi_270 dL_law_713 gz (KR _ _ rfl)
                                    · rw [if_neg c19] at H
                                      by_cases c20 : (x3 &&& 63) = 16
                                      · rw [if_pos c20] at H
                                        refine Wp.pure (p2 := 714) (ls2 := [some (.ref a0), some (.ref a1), some (.ref a2), some (.ref a3), some (.int a4), none, none, none]) (st2 := []) (h2 := h) xi_270 dL_law_39 rfl rfl rfl (by rw [c20]; rfl) ?_
                                        refine wp_aload_n xi_270 dL_law_714 rfl ?_
                                        obtain ⟨u230, gu230, H⟩ := Option.bind_eq_some_iff.mp H
                                        obtain ⟨⟨x232, h231⟩, gh231, H⟩ := Option.bind_eq_some_iff.mp H
                                        dsimp only at H
                                        refine wq_callV (a := a1) (as := []) (r := []) (v1 := (some (.int x232))) xi_270 xi_127 dL_law_715 xm_13_99 rfl (Nat.le_of_ble_eq_true rfl) (pG_ok gu230) ⟨(Nat.le_of_ble_eq_true rfl), (Nat.le_of_ble_eq_true rfl)⟩ rfl nofun (e_127 (d + 118) _ gh231 ⟨rfl, rfl⟩) ?_
                                        change Wp _ _ _ _ [.int x232] _ _
                                        refine wp_aload_n xi_270 dL_law_718 rfl ?_
                                        obtain ⟨u233, gu233, H⟩ := Option.bind_eq_some_iff.mp H
                                        obtain ⟨⟨x235, h234⟩, gh234, H⟩ := Option.bind_eq_some_iff.mp H
                                        dsimp only at H
                                        refine wq_callV (a := a2) (as := []) (r := [.int x232]) (v1 := (some (.int x235))) xi_270 xi_209 dL_law_719 xm_13_102 rfl (Nat.le_of_ble_eq_true rfl) (pG_ok gu233) ⟨(Nat.le_of_ble_eq_true rfl), (Nat.le_of_ble_eq_true rfl)⟩ rfl nofun (e_209 (d + 118) _ gh234 ⟨rfl, rfl⟩) ?_
                                        change Wp _ _ _ _ [.int x235, .int x232] _ _
                                        refine wp_icmp_eq 1348 xi_270 dL_law_722 rfl (fun c236 => ?_) (fun c236 => ?_)
                                        · rw [if_pos c236] at H
                                          refine wp_iinc (a4 + 5) [some (.ref a0), some (.ref a1), some (.ref a2), some (.ref a3), some (.int (a4 + 5)), none, none, none] xi_270 dL_law_1348 rfl rfl rfl ?_
                                          refine wp_goto 23 xi_270 dL_law_1351 rfl ?_
                                          exact Wp.more (by simp [xMore, Value.category]) (ih a0 a1 a2 a3 (a4 + 5) h234 _ H KE KR)
                                        · rw [if_neg c236] at H
                                          refine wp_iconst 0 xi_270 dL_law_725 rfl ?_
                                          obtain ⟨q237, gq237, H⟩ := Option.bind_eq_some_iff.mp H
                                          obtain ⟨gz, rfl⟩ := pZ_ok gq237
                                          obtain rfl := Option.some.inj H
                                          exact wp_zret xi_270 dL_law_726 gz (KR _ _ rfl)
                                      · rw [if_neg c20] at H
                                        by_cases c21 : (x3 &&& 63) = 17
                                        · rw [if_pos c21] at H
                                          refine Wp.pure (p2 := 727) (ls2 := [some (.ref a0), some (.ref a1), some (.ref a2), some (.ref a3), some (.int a4), none, none, none]) (st2 := []) (h2 := h) xi_270 dL_law_39 rfl rfl rfl (by rw [c21]; rfl) ?_
                                          refine wp_aload_n xi_270 dL_law_727 rfl ?_
                                          refine wp_aload_n xi_270 dL_law_728 rfl ?_
                                          refine wp_iload xi_270 dL_law_729 rfl ?_
                                          refine wp_iconst 1 xi_270 dL_law_731 rfl ?_
                                          refine wp_iadd xi_270 dL_law_732 ?_
                                          obtain ⟨x238, gx238, H⟩ := Option.bind_eq_some_iff.mp H
                                          refine wq_iaload xi_270 dL_law_733 gx238 ?_
                                          refine wp_aload_n xi_270 dL_law_734 rfl ?_
                                          refine wp_iload xi_270 dL_law_735 rfl ?_
                                          refine wp_iconst 2 xi_270 dL_law_737 rfl ?_
                                          refine wp_iadd xi_270 dL_law_738 ?_
                                          obtain ⟨x239, gx239, H⟩ := Option.bind_eq_some_iff.mp H
                                          refine wq_iaload xi_270 dL_law_739 gx239 ?_
                                          obtain ⟨u240, gu240, H⟩ := Option.bind_eq_some_iff.mp H
                                          obtain ⟨⟨x242, h241⟩, gh241, H⟩ := Option.bind_eq_some_iff.mp H
                                          dsimp only at H
                                          refine wq_callV (a := a1) (as := [.int x238, .int x239]) (r := []) (v1 := (some (.int x242))) xi_270 xi_128 dL_law_740 xm_13_103 rfl (Nat.le_of_ble_eq_true rfl) (pG_ok gu240) ⟨(Nat.le_of_ble_eq_true rfl), (Nat.le_of_ble_eq_true rfl)⟩ rfl nofun (e_128 (d + 119) _ gh241 ⟨rfl, rfl⟩) ?_
                                          change Wp _ _ _ _ [.int x242] _ _
                                          refine wp_aload_n xi_270 dL_law_743 rfl ?_
                                          refine wp_aload_n xi_270 dL_law_744 rfl ?_
                                          refine wp_iload xi_270 dL_law_745 rfl ?_
                                          refine wp_iconst 1 xi_270 dL_law_747 rfl ?_
                                          refine wp_iadd xi_270 dL_law_748 ?_
                                          obtain ⟨x243, gx243, H⟩ := Option.bind_eq_some_iff.mp H
                                          refine wq_iaload xi_270 dL_law_749 gx243 ?_
                                          refine wp_aload_n xi_270 dL_law_750 rfl ?_
                                          refine wp_iload xi_270 dL_law_751 rfl ?_
                                          refine wp_iconst 2 xi_270 dL_law_753 rfl ?_
                                          refine wp_iadd xi_270 dL_law_754 ?_
                                          obtain ⟨x244, gx244, H⟩ := Option.bind_eq_some_iff.mp H
                                          refine wq_iaload xi_270 dL_law_755 gx244 ?_
                                          obtain ⟨u245, gu245, H⟩ := Option.bind_eq_some_iff.mp H
                                          obtain ⟨⟨x247, h246⟩, gh246, H⟩ := Option.bind_eq_some_iff.mp H
                                          dsimp only at H
                                          refine wq_callV (a := a2) (as := [.int x243, .int x244]) (r := [.int x242]) (v1 := (some (.int x247))) xi_270 xi_210 dL_law_756 xm_13_106 rfl (Nat.le_of_ble_eq_true rfl) (pG_ok gu245) ⟨(Nat.le_of_ble_eq_true rfl), (Nat.le_of_ble_eq_true rfl)⟩ rfl nofun (e_210 (d + 118) _ gh246 ⟨rfl, rfl⟩) ?_
                                          change Wp _ _ _ _ [.int x247, .int x242] _ _
                                          refine wp_icmp_eq 1348 xi_270 dL_law_759 rfl (fun c248 => ?_) (fun c248 => ?_)
                                          · rw [if_pos c248] at H
                                            refine wp_iinc (a4 + 5) [some (.ref a0), some (.ref a1), some (.ref a2), some (.ref a3), some (.int (a4 + 5)), none, none, none] xi_270 dL_law_1348 rfl rfl rfl ?_
                                            refine wp_goto 23 xi_270 dL_law_1351 rfl ?_
                                            exact Wp.more (by simp [xMore, Value.category]) (ih a0 a1 a2 a3 (a4 + 5) h246 _ H KE KR)
                                          · rw [if_neg c248] at H
                                            refine wp_iconst 0 xi_270 dL_law_762 rfl ?_
                                            obtain ⟨q249, gq249, H⟩ := Option.bind_eq_some_iff.mp H
                                            obtain ⟨gz, rfl⟩ := pZ_ok gq249
                                            obtain rfl := Option.some.inj H
                                            exact wp_zret xi_270 dL_law_763 gz (KR _ _ rfl)
                                        · rw [if_neg c21] at H
                                          by_cases c22 : (x3 &&& 63) = 18
                                          · rw [if_pos c22] at H
                                            refine Wp.pure (p2 := 764) (ls2 := [some (.ref a0), some (.ref a1), some (.ref a2), some (.ref a3), some (.int a4), none, none, none]) (st2 := []) (h2 := h) xi_270 dL_law_39 rfl rfl rfl (by rw [c22]; rfl) ?_
                                            refine wp_aload_n xi_270 dL_law_764 rfl ?_
                                            obtain ⟨u250, gu250, H⟩ := Option.bind_eq_some_iff.mp H
                                            obtain ⟨⟨x252, h251⟩, gh251, H⟩ := Option.bind_eq_some_iff.mp H
                                            dsimp only at H
                                            refine wq_callV (a := a1) (as := []) (r := []) (v1 := (some (.int x252))) xi_270 xi_129 dL_law_765 xm_13_107 rfl (Nat.le_of_ble_eq_true rfl) (pG_ok gu250) ⟨(Nat.le_of_ble_eq_true rfl), (Nat.le_of_ble_eq_true rfl)⟩ rfl nofun (e_129 (d + 118) _ gh251 ⟨rfl, rfl⟩) ?_
                                            change Wp _ _ _ _ [.int x252] _ _
                                            refine wp_aload_n xi_270 dL_law_768 rfl ?_
                                            obtain ⟨u253, gu253, H⟩ := Option.bind_eq_some_iff.mp H
                                            obtain ⟨⟨x255, h254⟩, gh254, H⟩ := Option.bind_eq_some_iff.mp H
                                            dsimp only at H
                                            refine wq_callV (a := a2) (as := []) (r := [.int x252]) (v1 := (some (.int x255))) xi_270 xi_212 dL_law_769 xm_13_110 rfl (Nat.le_of_ble_eq_true rfl) (pG_ok gu253) ⟨(Nat.le_of_ble_eq_true rfl), (Nat.le_of_ble_eq_true rfl)⟩ rfl nofun (e_212 (d + 117) _ gh254 ⟨rfl, rfl⟩) ?_
                                            change Wp _ _ _ _ [.int x255, .int x252] _ _
                                            refine wp_icmp_eq 1348 xi_270 dL_law_772 rfl (fun c256 => ?_) (fun c256 => ?_)
                                            · rw [if_pos c256] at H
                                              refine wp_iinc (a4 + 5) [some (.ref a0), some (.ref a1), some (.ref a2), some (.ref a3), some (.int (a4 + 5)), none, none, none] xi_270 dL_law_1348 rfl rfl rfl ?_
                                              refine wp_goto 23 xi_270 dL_law_1351 rfl ?_
                                              exact Wp.more (by simp [xMore, Value.category]) (ih a0 a1 a2 a3 (a4 + 5) h254 _ H KE KR)
                                            · rw [if_neg c256] at H
                                              refine wp_iconst 0 xi_270 dL_law_775 rfl ?_
                                              obtain ⟨q257, gq257, H⟩ := Option.bind_eq_some_iff.mp H
                                              obtain ⟨gz, rfl⟩ := pZ_ok gq257
                                              obtain rfl := Option.some.inj H
                                              exact wp_zret xi_270 dL_law_776 gz (KR _ _ rfl)
                                          · rw [if_neg c22] at H
                                            by_cases c23 : (x3 &&& 63) = 19
                                            · rw [if_pos c23] at H
                                              refine Wp.pure (p2 := 777) (ls2 := [some (.ref a0), some (.ref a1), some (.ref a2), some (.ref a3), some (.int a4), none, none, none]) (st2 := []) (h2 := h) xi_270 dL_law_39 rfl rfl rfl (by rw [c23]; rfl) ?_
                                              refine wp_aload_n xi_270 dL_law_777 rfl ?_
                                              obtain ⟨u258, gu258, H⟩ := Option.bind_eq_some_iff.mp H
                                              obtain ⟨⟨x260, h259⟩, gh259, H⟩ := Option.bind_eq_some_iff.mp H
                                              dsimp only at H
                                              refine wq_callV (a := a1) (as := []) (r := []) (v1 := (some (.int x260))) xi_270 xi_130 dL_law_778 xm_13_111 rfl (Nat.le_of_ble_eq_true rfl) (pG_ok gu258) ⟨(Nat.le_of_ble_eq_true rfl), (Nat.le_of_ble_eq_true rfl)⟩ rfl nofun (e_130 (d + 117) _ gh259 ⟨rfl, rfl⟩) ?_
                                              change Wp _ _ _ _ [.int x260] _ _
                                              refine wp_aload_n xi_270 dL_law_781 rfl ?_
                                              obtain ⟨u261, gu261, H⟩ := Option.bind_eq_some_iff.mp H
                                              obtain ⟨⟨x263, h262⟩, gh262, H⟩ := Option.bind_eq_some_iff.mp H
                                              dsimp only at H
                                              refine wq_callV (a := a2) (as := []) (r := [.int x260]) (v1 := (some (.int x263))) xi_270 xi_214 dL_law_782 xm_13_114 rfl (Nat.le_of_ble_eq_true rfl) (pG_ok gu261) ⟨(Nat.le_of_ble_eq_true rfl), (Nat.le_of_ble_eq_true rfl)⟩ rfl nofun (e_214 (d + 117) _ gh262 ⟨rfl, rfl⟩) ?_
                                              change Wp _ _ _ _ [.int x263, .int x260] _ _
                                              refine wp_icmp_eq 1348 xi_270 dL_law_785 rfl (fun c264 => ?_) (fun c264 => ?_)
                                              · rw [if_pos c264] at H
                                                refine wp_iinc (a4 + 5) [some (.ref a0), some (.ref a1), some (.ref a2), some (.ref a3), some (.int (a4 + 5)), none, none, none] xi_270 dL_law_1348 rfl rfl rfl ?_
                                                refine wp_goto 23 xi_270 dL_law_1351 rfl ?_
                                                exact Wp.more (by simp [xMore, Value.category]) (ih a0 a1 a2 a3 (a4 + 5) h262 _ H KE KR)
                                              · rw [if_neg c264] at H
                                                refine wp_iconst 0 xi_270 dL_law_788 rfl ?_
                                                obtain ⟨q265, gq265, H⟩ := Option.bind_eq_some_iff.mp H
                                                obtain ⟨gz, rfl⟩ := pZ_ok gq265
                                                obtain rfl := Option.some.inj H
                                                exact wp_zret xi_270 dL_law_789 gz (KR _ _ rfl)
                                            · rw [if_neg c23] at H
                                              by_cases c24 : (x3 &&& 63) = 20
                                              · rw [if_pos c24] at H
                                                refine Wp.pure (p2 := 790) (ls2 := [some (.ref a0), some (.ref a1), some (.ref a2), some (.ref a3), some (.int a4), none, none, none]) (st2 := []) (h2 := h) xi_270 dL_law_39 rfl rfl rfl (by rw [c24]; rfl) ?_
                                                refine wp_aload_n xi_270 dL_law_790 rfl ?_
                                                refine wp_aload_n xi_270 dL_law_791 rfl ?_
                                                refine wp_iload xi_270 dL_law_792 rfl ?_
                                                refine wp_iconst 1 xi_270 dL_law_794 rfl ?_
                                                refine wp_iadd xi_270 dL_law_795 ?_
                                                obtain ⟨x266, gx266, H⟩ := Option.bind_eq_some_iff.mp H
                                                refine wq_iaload xi_270 dL_law_796 gx266 ?_
                                                obtain ⟨u267, gu267, H⟩ := Option.bind_eq_some_iff.mp H
                                                obtain ⟨⟨x269, h268⟩, gh268, H⟩ := Option.bind_eq_some_iff.mp H
                                                dsimp only at H
                                                refine wq_callV (a := a1) (as := [.int x266]) (r := []) (v1 := (some (.int x269))) xi_270 xi_131 dL_law_797 xm_13_115 rfl (Nat.le_of_ble_eq_true rfl) (pG_ok gu267) ⟨(Nat.le_of_ble_eq_true rfl), (Nat.le_of_ble_eq_true rfl)⟩ rfl nofun (e_131 (d + 118) _ gh268 ⟨rfl, rfl⟩) ?_
                                                change Wp _ _ _ _ [.int x269] _ _
                                                refine wp_aload_n xi_270 dL_law_800 rfl ?_
                                                refine wp_aload_n xi_270 dL_law_801 rfl ?_
                                                refine wp_iload xi_270 dL_law_802 rfl ?_
                                                refine wp_iconst 1 xi_270 dL_law_804 rfl ?_
                                                refine wp_iadd xi_270 dL_law_805 ?_
                                                obtain ⟨x270, gx270, H⟩ := Option.bind_eq_some_iff.mp H
                                                refine wq_iaload xi_270 dL_law_806 gx270 ?_
                                                obtain ⟨u271, gu271, H⟩ := Option.bind_eq_some_iff.mp H
                                                obtain ⟨⟨x273, h272⟩, gh272, H⟩ := Option.bind_eq_some_iff.mp H
                                                dsimp only at H
                                                refine wq_callV (a := a2) (as := [.int x270]) (r := [.int x269]) (v1 := (some (.int x273))) xi_270 xi_215 dL_law_807 xm_13_118 rfl (Nat.le_of_ble_eq_true rfl) (pG_ok gu271) ⟨(Nat.le_of_ble_eq_true rfl), (Nat.le_of_ble_eq_true rfl)⟩ rfl nofun (e_215 (d + 118) _ gh272 ⟨rfl, rfl⟩) ?_
                                                change Wp _ _ _ _ [.int x273, .int x269] _ _
                                                refine wp_icmp_eq 1348 xi_270 dL_law_810 rfl (fun c274 => ?_) (fun c274 => ?_)
                                                · rw [if_pos c274] at H
                                                  refine wp_iinc (a4 + 5) [some (.ref a0), some (.ref a1), some (.ref a2), some (.ref a3), some (.int (a4 + 5)), none, none, none] xi_270 dL_law_1348 rfl rfl rfl ?_
                                                  refine wp_goto 23 xi_270 dL_law_1351 rfl ?_
                                                  exact Wp.more (by simp [xMore, Value.category]) (ih a0 a1 a2 a3 (a4 + 5) h272 _ H KE KR)
                                                · rw [if_neg c274] at H
                                                  refine wp_iconst 0 xi_270 dL_law_813 rfl ?_
                                                  obtain ⟨q275, gq275, H⟩ := Option.bind_eq_some_iff.mp H
                                                  obtain ⟨gz, rfl⟩ := pZ_ok gq275
                                                  obtain rfl := Option.some.inj H
                                                  exact wp_zret xi_270 dL_law_814 gz (KR _ _ rfl)
                                              · rw [if_neg c24] at H
                                                by_cases c25 : (x3 &&& 63) = 21
                                                · rw [if_pos c25] at H
                                                  refine Wp.pure (p2 := 815) (ls2 := [some (.ref a0), some (.ref a1), some (.ref a2), some (.ref a3), some (.int a4), none, none, none]) (st2 := []) (h2 := h) xi_270 dL_law_39 rfl rfl rfl (by rw [c25]; rfl) ?_
                                                  refine wp_aload_n xi_270 dL_law_815 rfl ?_
                                                  refine wp_aload_n xi_270 dL_law_816 rfl ?_
                                                  refine wp_iload xi_270 dL_law_817 rfl ?_
                                                  refine wp_iconst 1 xi_270 dL_law_819 rfl ?_
                                                  refine wp_iadd xi_270 dL_law_820 ?_
                                                  obtain ⟨x276, gx276, H⟩ := Option.bind_eq_some_iff.mp H
                                                  refine wq_iaload xi_270 dL_law_821 gx276 ?_
                                                  obtain ⟨u277, gu277, H⟩ := Option.bind_eq_some_iff.mp H
                                                  obtain ⟨⟨x279, h278⟩, gh278, H⟩ := Option.bind_eq_some_iff.mp H
                                                  dsimp only at H
                                                  refine wq_callV (a := a1) (as := [.int x276]) (r := []) (v1 := (some (.int x279))) xi_270 xi_132 dL_law_822 xm_13_119 rfl (Nat.le_of_ble_eq_true rfl) (pG_ok gu277) ⟨(Nat.le_of_ble_eq_true rfl), (Nat.le_of_ble_eq_true rfl)⟩ rfl nofun (e_132 (d + 119) _ gh278 ⟨rfl, rfl⟩) ?_
                                                  change Wp _ _ _ _ [.int x279] _ _
                                                  refine wp_aload_n xi_270 dL_law_825 rfl ?_
                                                  refine wp_aload_n xi_270 dL_law_826 rfl ?_
                                                  refine wp_iload xi_270 dL_law_827 rfl ?_
                                                  refine wp_iconst 1 xi_270 dL_law_829 rfl ?_
                                                  refine wp_iadd xi_270 dL_law_830 ?_
                                                  obtain ⟨x280, gx280, H⟩ := Option.bind_eq_some_iff.mp H
                                                  refine wq_iaload xi_270 dL_law_831 gx280 ?_
                                                  obtain ⟨u281, gu281, H⟩ := Option.bind_eq_some_iff.mp H
                                                  obtain ⟨⟨x283, h282⟩, gh282, H⟩ := Option.bind_eq_some_iff.mp H
                                                  dsimp only at H
                                                  refine wq_callV (a := a2) (as := [.int x280]) (r := [.int x279]) (v1 := (some (.int x283))) xi_270 xi_220 dL_law_832 xm_13_122 rfl (Nat.le_of_ble_eq_true rfl) (pG_ok gu281) ⟨(Nat.le_of_ble_eq_true rfl), (Nat.le_of_ble_eq_true rfl)⟩ rfl nofun (e_220 (d + 118) _ gh282 ⟨rfl, rfl⟩) ?_
                                                  change Wp _ _ _ _ [.int x283, .int x279] _ _
                                                  refine wp_icmp_eq 1348 xi_270 dL_law_835 rfl (fun c284 => ?_) (fun c284 => ?_)
                                                  · rw [if_pos c284] at H
                                                    refine wp_iinc (a4 + 5) [some (.ref a0), some (.ref a1), some (.ref a2), some (.ref a3), some (.int (a4 + 5)), none, none, none] xi_270 dL_law_1348 rfl rfl rfl ?_
                                                    refine wp_goto 23 xi_270 dL_law_1351 rfl ?_
                                                    exact Wp.more (by simp [xMore, Value.category]) (ih a0 a1 a2 a3 (a4 + 5) h282 _ H KE KR)
                                                  · rw [if_neg c284] at H
                                                    refine wp_iconst 0 xi_270 dL_law_838 rfl ?_
                                                    obtain ⟨q285, gq285, H⟩ := Option.bind_eq_some_iff.mp H
                                                    obtain ⟨gz, rfl⟩ := pZ_ok gq285
                                                    obtain rfl := Option.some.inj H
                                                    exact wp_zret xi_270 dL_law_839 gz (KR _ _ rfl)
                                                · rw [if_neg c25] at H
                                                  by_cases c26 : (x3 &&& 63) = 22
                                                  · rw [if_pos c26] at H
                                                    refine Wp.pure (p2 := 840) (ls2 := [some (.ref a0), some (.ref a1), some (.ref a2), some (.ref a3), some (.int a4), none, none, none]) (st2 := []) (h2 := h) xi_270 dL_law_39 rfl rfl rfl (by rw [c26]; rfl) ?_
                                                    refine wp_aload_n xi_270 dL_law_840 rfl ?_
                                                    obtain ⟨u286, gu286, H⟩ := Option.bind_eq_some_iff.mp H
                                                    obtain ⟨⟨x288, h287⟩, gh287, H⟩ := Option.bind_eq_some_iff.mp H
                                                    dsimp only at H
                                                    refine wq_callV (a := a1) (as := []) (r := []) (v1 := (some (.int x288))) xi_270 xi_134 dL_law_841 xm_13_123 rfl (Nat.le_of_ble_eq_true rfl) (pG_ok gu286) ⟨(Nat.le_of_ble_eq_true rfl), (Nat.le_of_ble_eq_true rfl)⟩ rfl nofun (e_134 (d + 119) _ gh287 ⟨rfl, rfl⟩) ?_
                                                    change Wp _ _ _ _ [.int x288] _ _
                                                    refine wp_aload_n xi_270 dL_law_844 rfl ?_
                                                    obtain ⟨u289, gu289, H⟩ := Option.bind_eq_some_iff.mp H
                                                    obtain ⟨⟨x291, h290⟩, gh290, H⟩ := Option.bind_eq_some_iff.mp H
                                                    dsimp only at H
                                                    refine wq_callV (a := a2) (as := []) (r := [.int x288]) (v1 := (some (.int x291))) xi_270 xi_222 dL_law_845 xm_13_126 rfl (Nat.le_of_ble_eq_true rfl) (pG_ok gu289) ⟨(Nat.le_of_ble_eq_true rfl), (Nat.le_of_ble_eq_true rfl)⟩ rfl nofun (e_222 (d + 118) _ gh290 ⟨rfl, rfl⟩) ?_
                                                    change Wp _ _ _ _ [.int x291, .int x288] _ _
                                                    refine wp_icmp_eq 1348 xi_270 dL_law_848 rfl (fun c292 => ?_) (fun c292 => ?_)
                                                    · rw [if_pos c292] at H
                                                      refine wp_iinc (a4 + 5) [some (.ref a0), some (.ref a1), some (.ref a2), some (.ref a3), some (.int (a4 + 5)), none, none, none] xi_270 dL_law_1348 rfl rfl rfl ?_
                                                      refine wp_goto 23 xi_270 dL_law_1351 rfl ?_
                                                      exact Wp.more (by simp [xMore, Value.category]) (ih a0 a1 a2 a3 (a4 + 5) h290 _ H KE KR)
                                                    · rw [if_neg c292] at H
                                                      refine wp_iconst 0 xi_270 dL_law_851 rfl ?_
                                                      obtain ⟨q293, gq293, H⟩ := Option.bind_eq_some_iff.mp H
                                                      obtain ⟨gz, rfl⟩ := pZ_ok gq293
                                                      obtain rfl := Option.some.inj H
                                                      exact wp_zret xi_270 dL_law_852 gz (KR _ _ rfl)
                                                  · rw [if_neg c26] at H
                                                    by_cases c27 : (x3 &&& 63) = 23
                                                    · rw [if_pos c27] at H
                                                      refine Wp.pure (p2 := 853) (ls2 := [some (.ref a0), some (.ref a1), some (.ref a2), some (.ref a3), some (.int a4), none, none, none]) (st2 := []) (h2 := h) xi_270 dL_law_39 rfl rfl rfl (by rw [c27]; rfl) ?_
                                                      refine wp_aload_n xi_270 dL_law_853 rfl ?_
                                                      obtain ⟨u294, gu294, H⟩ := Option.bind_eq_some_iff.mp H
                                                      obtain ⟨⟨x296, h295⟩, gh295, H⟩ := Option.bind_eq_some_iff.mp H
                                                      dsimp only at H
                                                      refine wq_callV (a := a1) (as := []) (r := []) (v1 := (some (.int x296))) xi_270 xi_135 dL_law_854 xm_13_127 rfl (Nat.le_of_ble_eq_true rfl) (pG_ok gu294) ⟨(Nat.le_of_ble_eq_true rfl), (Nat.le_of_ble_eq_true rfl)⟩ rfl nofun (e_135 (d + 120) _ gh295 ⟨rfl, rfl⟩) ?_
                                                      change Wp _ _ _ _ [.int x296] _ _
                                                      refine wp_aload_n xi_270 dL_law_857 rfl ?_
                                                      obtain ⟨u297, gu297, H⟩ := Option.bind_eq_some_iff.mp H
                                                      obtain ⟨⟨x299, h298⟩, gh298, H⟩ := Option.bind_eq_some_iff.mp H
                                                      dsimp only at H
                                                      refine wq_callV (a := a2) (as := []) (r := [.int x296]) (v1 := (some (.int x299))) xi_270 xi_218 dL_law_858 xm_13_130 rfl (Nat.le_of_ble_eq_true rfl) (pG_ok gu297) ⟨(Nat.le_of_ble_eq_true rfl), (Nat.le_of_ble_eq_true rfl)⟩ rfl nofun (e_218 (d + 123) _ gh298 ⟨rfl, rfl⟩) ?_
                                                      change Wp _ _ _ _ [.int x299, .int x296] _ _
                                                      refine wp_icmp_eq 1348 xi_270 dL_law_861 rfl (fun c300 => ?_) (fun c300 => ?_)
                                                      · rw [if_pos c300] at H
                                                        refine wp_iinc (a4 + 5) [some (.ref a0), some (.ref a1), some (.ref a2), some (.ref a3), some (.int (a4 + 5)), none, none, none] xi_270 dL_law_1348 rfl rfl rfl ?_
                                                        refine wp_goto 23 xi_270 dL_law_1351 rfl ?_
                                                        exact Wp.more (by simp [xMore, Value.category]) (ih a0 a1 a2 a3 (a4 + 5) h298 _ H KE KR)
                                                      · rw [if_neg c300] at H
                                                        refine wp_iconst 0 xi_270 dL_law_864 rfl ?_
                                                        obtain ⟨q301, gq301, H⟩ := Option.bind_eq_some_iff.mp H
                                                        obtain ⟨gz, rfl⟩ := pZ_ok gq301
                                                        obtain rfl := Option.some.inj H
                                                        exact wp_zret xi_270 dL_law_865 gz (KR _ _ rfl)
                                                    · rw [if_neg c27] at H
                                                      by_cases c28 : (x3 &&& 63) = 24
                                                      · rw [if_pos c28] at H
                                                        refine Wp.pure (p2 := 866) (ls2 := [some (.ref a0), some (.ref a1), some (.ref a2), some (.ref a3), some (.int a4), none, none, none]) (st2 := []) (h2 := h) xi_270 dL_law_39 rfl rfl rfl (by rw [c28]; rfl) ?_
                                                        refine wp_aload_n xi_270 dL_law_866 rfl ?_
                                                        obtain ⟨u302, gu302, H⟩ := Option.bind_eq_some_iff.mp H
                                                        obtain ⟨⟨x304, h303⟩, gh303, H⟩ := Option.bind_eq_some_iff.mp H
                                                        dsimp only at H
                                                        refine wq_callV (a := a1) (as := []) (r := []) (v1 := (some (.int x304))) xi_270 xi_136 dL_law_867 xm_13_131 rfl (Nat.le_of_ble_eq_true rfl) (pG_ok gu302) ⟨(Nat.le_of_ble_eq_true rfl), (Nat.le_of_ble_eq_true rfl)⟩ rfl nofun (e_136 (d + 122) _ gh303 ⟨rfl, rfl⟩) ?_
                                                        change Wp _ _ _ _ [.int x304] _ _
                                                        refine wp_aload_n xi_270 dL_law_870 rfl ?_
                                                        obtain ⟨u305, gu305, H⟩ := Option.bind_eq_some_iff.mp H
                                                        obtain ⟨⟨x307, h306⟩, gh306, H⟩ := Option.bind_eq_some_iff.mp H
                                                        dsimp only at H
                                                        refine wq_callV (a := a2) (as := []) (r := [.int x304]) (v1 := (some (.int x307))) xi_270 xi_223 dL_law_871 xm_13_134 rfl (Nat.le_of_ble_eq_true rfl) (pG_ok gu305) ⟨(Nat.le_of_ble_eq_true rfl), (Nat.le_of_ble_eq_true rfl)⟩ rfl nofun (e_223 (d + 122) _ gh306 ⟨rfl, rfl⟩) ?_
                                                        change Wp _ _ _ _ [.int x307, .int x304] _ _
                                                        refine wp_icmp_eq 1348 xi_270 dL_law_874 rfl (fun c308 => ?_) (fun c308 => ?_)
                                                        · rw [if_pos c308] at H
                                                          refine wp_iinc (a4 + 5) [some (.ref a0), some (.ref a1), some (.ref a2), some (.ref a3), some (.int (a4 + 5)), none, none, none] xi_270 dL_law_1348 rfl rfl rfl ?_
                                                          refine wp_goto 23 xi_270 dL_law_1351 rfl ?_
                                                          exact Wp.more (by simp [xMore, Value.category]) (ih a0 a1 a2 a3 (a4 + 5) h306 _ H KE KR)
                                                        · rw [if_neg c308] at H
                                                          refine wp_iconst 0 xi_270 dL_law_877 rfl ?_
                                                          obtain ⟨q309, gq309, H⟩ := Option.bind_eq_some_iff.mp H
                                                          obtain ⟨gz, rfl⟩ := pZ_ok gq309
                                                          obtain rfl := Option.some.inj H
                                                          exact wp_zret xi_270 dL_law_878 gz (KR _ _ rfl)
                                                      · rw [if_neg c28] at H
                                                        by_cases c29 : (x3 &&& 63) = 25
                                                        · rw [if_pos c29] at H
                                                          refine Wp.pure (p2 := 879) (ls2 := [some (.ref a0), some (.ref a1), some (.ref a2), some (.ref a3), some (.int a4), none, none, none]) (st2 := []) (h2 := h) xi_270 dL_law_39 rfl rfl rfl (by rw [c29]; rfl) ?_
                                                          refine wp_aload_n xi_270 dL_law_879 rfl ?_
                                                          obtain ⟨u310, gu310, H⟩ := Option.bind_eq_some_iff.mp H
                                                          obtain ⟨⟨x312, h311⟩, gh311, H⟩ := Option.bind_eq_some_iff.mp H
                                                          dsimp only at H
                                                          refine wq_callV (a := a1) (as := []) (r := []) (v1 := (some (.int x312))) xi_270 xi_138 dL_law_880 xm_13_135 rfl (Nat.le_of_ble_eq_true rfl) (pG_ok gu310) ⟨(Nat.le_of_ble_eq_true rfl), (Nat.le_of_ble_eq_true rfl)⟩ rfl nofun (e_138 (d + 116) _ gh311 ⟨rfl, rfl⟩) ?_
                                                          change Wp _ _ _ _ [.int x312] _ _
                                                          refine wp_aload_n xi_270 dL_law_883 rfl ?_
                                                          obtain ⟨u313, gu313, H⟩ := Option.bind_eq_some_iff.mp H
                                                          obtain ⟨⟨x315, h314⟩, gh314, H⟩ := Option.bind_eq_some_iff.mp H
                                                          dsimp only at H
                                                          refine wq_callV (a := a2) (as := []) (r := [.int x312]) (v1 := (some (.int x315))) xi_270 xi_233 dL_law_884 xm_13_138 rfl (Nat.le_of_ble_eq_true rfl) (pG_ok gu313) ⟨(Nat.le_of_ble_eq_true rfl), (Nat.le_of_ble_eq_true rfl)⟩ rfl nofun (e_233 (d + 57) _ gh314 ⟨rfl, rfl⟩) ?_
                                                          change Wp _ _ _ _ [.int x315, .int x312] _ _
                                                          refine wp_icmp_eq 1348 xi_270 dL_law_887 rfl (fun c316 => ?_) (fun c316 => ?_)
                                                          · rw [if_pos c316] at H
                                                            refine wp_iinc (a4 + 5) [some (.ref a0), some (.ref a1), some (.ref a2), some (.ref a3), some (.int (a4 + 5)), none, none, none] xi_270 dL_law_1348 rfl rfl rfl ?_
                                                            refine wp_goto 23 xi_270 dL_law_1351 rfl ?_
                                                            exact Wp.more (by simp [xMore, Value.category]) (ih a0 a1 a2 a3 (a4 + 5) h314 _ H KE KR)
                                                          · rw [if_neg c316] at H
                                                            refine wp_iconst 0 xi_270 dL_law_890 rfl ?_
                                                            obtain ⟨q317, gq317, H⟩ := Option.bind_eq_some_iff.mp H
                                                            obtain ⟨gz, rfl⟩ := pZ_ok gq317
                                                            obtain rfl := Option.some.inj H
                                                            exact wp_zret xi_270 dL_law_891 gz (KR _ _ rfl)
                                                        · rw [if_neg c29] at H
                                                          by_cases c30 : (x3 &&& 63) = 26
                                                          · rw [if_pos c30] at H
                                                            refine Wp.pure (p2 := 892) (ls2 := [some (.ref a0), some (.ref a1), some (.ref a2), some (.ref a3), some (.int a4), none, none, none]) (st2 := []) (h2 := h) xi_270 dL_law_39 rfl rfl rfl (by rw [c30]; rfl) ?_
                                                            refine wp_aload_n xi_270 dL_law_892 rfl ?_
                                                            obtain ⟨u318, gu318, H⟩ := Option.bind_eq_some_iff.mp H
                                                            obtain ⟨⟨x320, h319⟩, gh319, H⟩ := Option.bind_eq_some_iff.mp H
                                                            dsimp only at H
                                                            refine wq_callV (a := a1) (as := []) (r := []) (v1 := (some (.int x320))) xi_270 xi_139 dL_law_893 xm_13_139 rfl (Nat.le_of_ble_eq_true rfl) (pG_ok gu318) ⟨(Nat.le_of_ble_eq_true rfl), (Nat.le_of_ble_eq_true rfl)⟩ rfl nofun (e_139 (d + 116) _ gh319 ⟨rfl, rfl⟩) ?_
                                                            change Wp _ _ _ _ [.int x320] _ _
                                                            refine wp_aload_n xi_270 dL_law_896 rfl ?_
                                                            obtain ⟨u321, gu321, H⟩ := Option.bind_eq_some_iff.mp H
                                                            obtain ⟨⟨x323, h322⟩, gh322, H⟩ := Option.bind_eq_some_iff.mp H
                                                            dsimp only at H
                                                            refine wq_callV (a := a2) (as := []) (r := [.int x320]) (v1 := (some (.int x323))) xi_270 xi_235 dL_law_897 xm_13_142 rfl (Nat.le_of_ble_eq_true rfl) (pG_ok gu321) ⟨(Nat.le_of_ble_eq_true rfl), (Nat.le_of_ble_eq_true rfl)⟩ rfl nofun (e_235 (d + 56) _ gh322 ⟨rfl, rfl⟩) ?_
                                                            change Wp _ _ _ _ [.int x323, .int x320] _ _
                                                            refine wp_icmp_eq 1348 xi_270 dL_law_900 rfl (fun c324 => ?_) (fun c324 => ?_)
                                                            · rw [if_pos c324] at H
                                                              refine wp_iinc (a4 + 5) [some (.ref a0), some (.ref a1), some (.ref a2), some (.ref a3), some (.int (a4 + 5)), none, none, none] xi_270 dL_law_1348 rfl rfl rfl ?_
                                                              refine wp_goto 23 xi_270 dL_law_1351 rfl ?_
                                                              exact Wp.more (by simp [xMore, Value.category]) (ih a0 a1 a2 a3 (a4 + 5) h322 _ H KE KR)
                                                            · rw [if_neg c324] at H
                                                              refine wp_iconst 0 xi_270 dL_law_903 rfl ?_
                                                              obtain ⟨q325, gq325, H⟩ := Option.bind_eq_some_iff.mp H
                                                              obtain ⟨gz, rfl⟩ := pZ_ok gq325
                                                              obtain rfl := Option.some.inj H
                                                              exact wp_zret xi_270 dL_law_904 gz (KR _ _ rfl)
                                                          · rw [if_neg c30] at H
                                                            by_cases c31 : (x3 &&& 63) = 27
                                                            · rw [if_pos c31] at H
                                                              refine Wp.pure (p2 := 905) (ls2 := [some (.ref a0), some (.ref a1), some (.ref a2), some (.ref a3), some (.int a4), none, none, none]) (st2 := []) (h2 := h) xi_270 dL_law_39 rfl rfl rfl (by rw [c31]; rfl) ?_
                                                              refine wp_aload_n xi_270 dL_law_905 rfl ?_
                                                              obtain ⟨u326, gu326, H⟩ := Option.bind_eq_some_iff.mp H
                                                              obtain ⟨⟨x328, h327⟩, gh327, H⟩ := Option.bind_eq_some_iff.mp H
                                                              dsimp only at H
                                                              refine wq_callV (a := a1) (as := []) (r := []) (v1 := (some (.int x328))) xi_270 xi_140 dL_law_906 xm_13_143 rfl (Nat.le_of_ble_eq_true rfl) (pG_ok gu326) ⟨(Nat.le_of_ble_eq_true rfl), (Nat.le_of_ble_eq_true rfl)⟩ rfl nofun (e_140 (d + 116) _ gh327 ⟨rfl, rfl⟩) ?_
                                                              change Wp _ _ _ _ [.int x328] _ _
                                                              refine wp_aload_n xi_270 dL_law_909 rfl ?_
                                                              obtain ⟨u329, gu329, H⟩ := Option.bind_eq_some_iff.mp H
                                                              obtain ⟨⟨x331, h330⟩, gh330, H⟩ := Option.bind_eq_some_iff.mp H
                                                              dsimp only at H
                                                              refine wq_callV (a := a2) (as := []) (r := [.int x328]) (v1 := (some (.int x331))) xi_270 xi_236 dL_law_910 xm_13_146 rfl (Nat.le_of_ble_eq_true rfl) (pG_ok gu329) ⟨(Nat.le_of_ble_eq_true rfl), (Nat.le_of_ble_eq_true rfl)⟩ rfl nofun (e_236 (d + 56) _ gh330 ⟨rfl, rfl⟩) ?_
                                                              change Wp _ _ _ _ [.int x331, .int x328] _ _
                                                              refine wp_icmp_eq 1348 xi_270 dL_law_913 rfl (fun c332 => ?_) (fun c332 => ?_)
                                                              · rw [if_pos c332] at H
                                                                refine wp_iinc (a4 + 5) [some (.ref a0), some (.ref a1), some (.ref a2), some (.ref a3), some (.int (a4 + 5)), none, none, none] xi_270 dL_law_1348 rfl rfl rfl ?_
                                                                refine wp_goto 23 xi_270 dL_law_1351 rfl ?_
                                                                exact Wp.more (by simp [xMore, Value.category]) (ih a0 a1 a2 a3 (a4 + 5) h330 _ H KE KR)
                                                              · rw [if_neg c332] at H
                                                                refine wp_iconst 0 xi_270 dL_law_916 rfl ?_
                                                                obtain ⟨q333, gq333, H⟩ := Option.bind_eq_some_iff.mp H
                                                                obtain ⟨gz, rfl⟩ := pZ_ok gq333
                                                                obtain rfl := Option.some.inj H
                                                                exact wp_zret xi_270 dL_law_917 gz (KR _ _ rfl)
                                                            · rw [if_neg c31] at H
                                                              by_cases c32 : (x3 &&& 63) = 28
                                                              · rw [if_pos c32] at H
                                                                refine Wp.pure (p2 := 918) (ls2 := [some (.ref a0), some (.ref a1), some (.ref a2), some (.ref a3), some (.int a4), none, none, none]) (st2 := []) (h2 := h) xi_270 dL_law_39 rfl rfl rfl (by rw [c32]; rfl) ?_
                                                                refine wp_aload_n xi_270 dL_law_918 rfl ?_
                                                                obtain ⟨u334, gu334, H⟩ := Option.bind_eq_some_iff.mp H
                                                                obtain ⟨⟨x336, h335⟩, gh335, H⟩ := Option.bind_eq_some_iff.mp H
                                                                dsimp only at H
                                                                refine wq_callV (a := a1) (as := []) (r := []) (v1 := (some (.int x336))) xi_270 xi_141 dL_law_919 xm_13_147 rfl (Nat.le_of_ble_eq_true rfl) (pG_ok gu334) ⟨(Nat.le_of_ble_eq_true rfl), (Nat.le_of_ble_eq_true rfl)⟩ rfl nofun (e_141 (d + 116) _ gh335 ⟨rfl, rfl⟩) ?_
                                                                change Wp _ _ _ _ [.int x336] _ _
                                                                refine wp_aload_n xi_270 dL_law_922 rfl ?_
                                                                obtain ⟨u337, gu337, H⟩ := Option.bind_eq_some_iff.mp H
                                                                obtain ⟨⟨x339, h338⟩, gh338, H⟩ := Option.bind_eq_some_iff.mp H
                                                                dsimp only at H
                                                                refine wq_callV (a := a2) (as := []) (r := [.int x336]) (v1 := (some (.int x339))) xi_270 xi_238 dL_law_923 xm_13_150 rfl (Nat.le_of_ble_eq_true rfl) (pG_ok gu337) ⟨(Nat.le_of_ble_eq_true rfl), (Nat.le_of_ble_eq_true rfl)⟩ rfl nofun (e_238 (d + 117) _ gh338 ⟨rfl, rfl⟩) ?_
                                                                change Wp _ _ _ _ [.int x339, .int x336] _ _
                                                                refine wp_icmp_eq 1348 xi_270 dL_law_926 rfl (fun c340 => ?_) (fun c340 => ?_)
                                                                · rw [if_pos c340] at H
                                                                  refine wp_iinc (a4 + 5) [some (.ref a0), some (.ref a1), some (.ref a2), some (.ref a3), some (.int (a4 + 5)), none, none, none] xi_270 dL_law_1348 rfl rfl rfl ?_
                                                                  refine wp_goto 23 xi_270 dL_law_1351 rfl ?_
                                                                  exact Wp.more (by simp [xMore, Value.category]) (ih a0 a1 a2 a3 (a4 + 5) h338 _ H KE KR)
                                                                · rw [if_neg c340] at H
                                                                  refine wp_iconst 0 xi_270 dL_law_929 rfl ?_
                                                                  obtain ⟨q341, gq341, H⟩ := Option.bind_eq_some_iff.mp H
                                                                  obtain ⟨gz, rfl⟩ := pZ_ok gq341
                                                                  obtain rfl := Option.some.inj H
                                                                  exact wp_zret xi_270 dL_law_930 gz (KR _ _ rfl)
                                                              · rw [if_neg c32] at H
                                                                by_cases c33 : (x3 &&& 63) = 29
                                                                · rw [if_pos c33] at H
                                                                  refine Wp.pure (p2 := 931) (ls2 := [some (.ref a0), some (.ref a1), some (.ref a2), some (.ref a3), some (.int a4), none, none, none]) (st2 := []) (h2 := h) xi_270 dL_law_39 rfl rfl rfl (by rw [c33]; rfl) ?_
                                                                  refine wp_aload_n xi_270 dL_law_931 rfl ?_
                                                                  obtain ⟨u342, gu342, H⟩ := Option.bind_eq_some_iff.mp H
                                                                  obtain ⟨⟨x344, h343⟩, gh343, H⟩ := Option.bind_eq_some_iff.mp H
                                                                  dsimp only at H
                                                                  refine wq_callV (a := a1) (as := []) (r := []) (v1 := (some (.int x344))) xi_270 xi_142 dL_law_932 xm_13_151 rfl (Nat.le_of_ble_eq_true rfl) (pG_ok gu342) ⟨(Nat.le_of_ble_eq_true rfl), (Nat.le_of_ble_eq_true rfl)⟩ rfl nofun (e_142 (d + 116) _ gh343 ⟨rfl, rfl⟩) ?_
                                                                  change Wp _ _ _ _ [.int x344] _ _
                                                                  refine wp_aload_n xi_270 dL_law_935 rfl ?_
                                                                  obtain ⟨u345, gu345, H⟩ := Option.bind_eq_some_iff.mp H
                                                                  obtain ⟨⟨x347, h346⟩, gh346, H⟩ := Option.bind_eq_some_iff.mp H
                                                                  dsimp only at H
                                                                  refine wq_callV (a := a2) (as := []) (r := [.int x344]) (v1 := (some (.int x347))) xi_270 xi_239 dL_law_936 xm_13_154 rfl (Nat.le_of_ble_eq_true rfl) (pG_ok gu345) ⟨(Nat.le_of_ble_eq_true rfl), (Nat.le_of_ble_eq_true rfl)⟩ rfl nofun (e_239 (d + 117) _ gh346 ⟨rfl, rfl⟩) ?_
                                                                  change Wp _ _ _ _ [.int x347, .int x344] _ _
                                                                  refine wp_icmp_eq 1348 xi_270 dL_law_939 rfl (fun c348 => ?_) (fun c348 => ?_)
                                                                  · rw [if_pos c348] at H
                                                                    refine wp_iinc (a4 + 5) [some (.ref a0), some (.ref a1), some (.ref a2), some (.ref a3), some (.int (a4 + 5)), none, none, none] xi_270 dL_law_1348 rfl rfl rfl ?_
                                                                    refine wp_goto 23 xi_270 dL_law_1351 rfl ?_
                                                                    exact Wp.more (by simp [xMore, Value.category]) (ih a0 a1 a2 a3 (a4 + 5) h346 _ H KE KR)
                                                                  · rw [if_neg c348] at H
                                                                    refine wp_iconst 0 xi_270 dL_law_942 rfl ?_
                                                                    obtain ⟨q349, gq349, H⟩ := Option.bind_eq_some_iff.mp H
                                                                    obtain ⟨gz, rfl⟩ := pZ_ok gq349
                                                                    obtain rfl := Option.some.inj H
                                                                    exact wp_zret xi_270 dL_law_943 gz (KR _ _ rfl)
                                                                · rw [if_neg c33] at H
                                                                  by_cases c34 : (x3 &&& 63) = 30
                                                                  · rw [if_pos c34] at H
                                                                    refine Wp.pure (p2 := 944) (ls2 := [some (.ref a0), some (.ref a1), some (.ref a2), some (.ref a3), some (.int a4), none, none, none]) (st2 := []) (h2 := h) xi_270 dL_law_39 rfl rfl rfl (by rw [c34]; rfl) ?_
                                                                    refine wp_aload_n xi_270 dL_law_944 rfl ?_
                                                                    refine wp_aload_n xi_270 dL_law_945 rfl ?_
                                                                    refine wp_iload xi_270 dL_law_946 rfl ?_
                                                                    refine wp_iconst 1 xi_270 dL_law_948 rfl ?_
                                                                    refine wp_iadd xi_270 dL_law_949 ?_
                                                                    obtain ⟨x350, gx350, H⟩ := Option.bind_eq_some_iff.mp H
                                                                    refine wq_iaload xi_270 dL_law_950 gx350 ?_
                                                                    obtain ⟨u351, gu351, H⟩ := Option.bind_eq_some_iff.mp H
                                                                    obtain ⟨⟨x353, h352⟩, gh352, H⟩ := Option.bind_eq_some_iff.mp H
                                                                    dsimp only at H
                                                                    refine wq_callV (a := a1) (as := [.int x350]) (r := []) (v1 := (some (.int x353))) xi_270 xi_143 dL_law_951 xm_13_155 rfl (Nat.le_of_ble_eq_true rfl) (pG_ok gu351) ⟨(Nat.le_of_ble_eq_true rfl), (Nat.le_of_ble_eq_true rfl)⟩ rfl nofun (e_143 (d + 117) _ gh352 ⟨rfl, rfl⟩) ?_
                                                                    change Wp _ _ _ _ [.int x353] _ _
                                                                    refine wp_aload_n xi_270 dL_law_954 rfl ?_
                                                                    refine wp_aload_n xi_270 dL_law_955 rfl ?_
                                                                    refine wp_iload xi_270 dL_law_956 rfl ?_
                                                                    refine wp_iconst 1 xi_270 dL_law_958 rfl ?_
                                                                    refine wp_iadd xi_270 dL_law_959 ?_
                                                                    obtain ⟨x354, gx354, H⟩ := Option.bind_eq_some_iff.mp H
                                                                    refine wq_iaload xi_270 dL_law_960 gx354 ?_
                                                                    obtain ⟨u355, gu355, H⟩ := Option.bind_eq_some_iff.mp H
                                                                    obtain ⟨⟨x357, h356⟩, gh356, H⟩ := Option.bind_eq_some_iff.mp H
                                                                    dsimp only at H
                                                                    refine wq_callV (a := a2) (as := [.int x354]) (r := [.int x353]) (v1 := (some (.int x357))) xi_270 xi_240 dL_law_961 xm_13_158 rfl (Nat.le_of_ble_eq_true rfl) (pG_ok gu355) ⟨(Nat.le_of_ble_eq_true rfl), (Nat.le_of_ble_eq_true rfl)⟩ rfl nofun (e_240 (d + 118) _ gh356 ⟨rfl, rfl⟩) ?_
                                                                    change Wp _ _ _ _ [.int x357, .int x353] _ _
                                                                    refine wp_icmp_eq 1348 xi_270 dL_law_964 rfl (fun c358 => ?_) (fun c358 => ?_)
                                                                    · rw [if_pos c358] at H
                                                                      refine wp_iinc (a4 + 5) [some (.ref a0), some (.ref a1), some (.ref a2), some (.ref a3), some (.int (a4 + 5)), none, none, none] xi_270 dL_law_1348 rfl rfl rfl ?_
                                                                      refine wp_goto 23 xi_270 dL_law_1351 rfl ?_
                                                                      exact Wp.more (by simp [xMore, Value.category]) (ih a0 a1 a2 a3 (a4 + 5) h356 _ H KE KR)
                                                                    · rw [if_neg c358] at H
                                                                      refine wp_iconst 0 xi_270 dL_law_967 rfl ?_
                                                                      obtain ⟨q359, gq359, H⟩ := Option.bind_eq_some_iff.mp H
                                                                      obtain ⟨gz, rfl⟩ := pZ_ok gq359
                                                                      obtain rfl := Option.some.inj H
                                                                      exact wp_zret xi_270 dL_law_968 gz (KR _ _ rfl)
                                                                  · rw [if_neg c34] at H
                                                                    by_cases c35 : (x3 &&& 63) = 31
                                                                    · rw [if_pos c35] at H
                                                                      refine Wp.pure (p2 := 969) (ls2 := [some (.ref a0), some (.ref a1), some (.ref a2), some (.ref a3), some (.int a4), none, none, none]) (st2 := []) (h2 := h) xi_270 dL_law_39 rfl rfl rfl (by rw [c35]; rfl) ?_
                                                                      refine wp_aload_n xi_270 dL_law_969 rfl ?_
                                                                      refine wp_aload_n xi_270 dL_law_970 rfl ?_
                                                                      refine wp_iload xi_270 dL_law_971 rfl ?_
                                                                      refine wp_iconst 1 xi_270 dL_law_973 rfl ?_
                                                                      refine wp_iadd xi_270 dL_law_974 ?_
                                                                      obtain ⟨x360, gx360, H⟩ := Option.bind_eq_some_iff.mp H
                                                                      refine wq_iaload xi_270 dL_law_975 gx360 ?_
                                                                      obtain ⟨u361, gu361, H⟩ := Option.bind_eq_some_iff.mp H
                                                                      obtain ⟨⟨x363, h362⟩, gh362, H⟩ := Option.bind_eq_some_iff.mp H
                                                                      dsimp only at H
                                                                      refine wq_callV (a := a1) (as := [.int x360]) (r := []) (v1 := (some (.int x363))) xi_270 xi_144 dL_law_976 xm_13_159 rfl (Nat.le_of_ble_eq_true rfl) (pG_ok gu361) ⟨(Nat.le_of_ble_eq_true rfl), (Nat.le_of_ble_eq_true rfl)⟩ rfl nofun (e_144 (d + 116) _ gh362 ⟨rfl, rfl⟩) ?_
                                                                      change Wp _ _ _ _ [.int x363] _ _
                                                                      refine wp_aload_n xi_270 dL_law_979 rfl ?_
                                                                      refine wp_aload_n xi_270 dL_law_980 rfl ?_
                                                                      refine wp_iload xi_270 dL_law_981 rfl ?_
                                                                      refine wp_iconst 1 xi_270 dL_law_983 rfl ?_
                                                                      refine wp_iadd xi_270 dL_law_984 ?_
                                                                      obtain ⟨x364, gx364, H⟩ := Option.bind_eq_some_iff.mp H
                                                                      refine wq_iaload xi_270 dL_law_985 gx364 ?_
                                                                      obtain ⟨u365, gu365, H⟩ := Option.bind_eq_some_iff.mp H
                                                                      obtain ⟨⟨x367, h366⟩, gh366, H⟩ := Option.bind_eq_some_iff.mp H
                                                                      dsimp only at H
                                                                      refine wq_callV (a := a2) (as := [.int x364]) (r := [.int x363]) (v1 := (some (.int x367))) xi_270 xi_243 dL_law_986 xm_13_162 rfl (Nat.le_of_ble_eq_true rfl) (pG_ok gu365) ⟨(Nat.le_of_ble_eq_true rfl), (Nat.le_of_ble_eq_true rfl)⟩ rfl nofun (e_243 (d + 81) _ gh366 ⟨rfl, rfl⟩) ?_
                                                                      change Wp _ _ _ _ [.int x367, .int x363] _ _
                                                                      refine wp_icmp_eq 1348 xi_270 dL_law_989 rfl (fun c368 => ?_) (fun c368 => ?_)
                                                                      · rw [if_pos c368] at H
                                                                        refine wp_iinc (a4 + 5) [some (.ref a0), some (.ref a1), some (.ref a2), some (.ref a3), some (.int (a4 + 5)), none, none, none] xi_270 dL_law_1348 rfl rfl rfl ?_
                                                                        refine wp_goto 23 xi_270 dL_law_1351 rfl ?_
                                                                        exact Wp.more (by simp [xMore, Value.category]) (ih a0 a1 a2 a3 (a4 + 5) h366 _ H KE KR)
                                                                      · rw [if_neg c368] at H
                                                                        refine wp_iconst 0 xi_270 dL_law_992 rfl ?_
                                                                        obtain ⟨q369, gq369, H⟩ := Option.bind_eq_some_iff.mp H
                                                                        obtain ⟨gz, rfl⟩ := pZ_ok gq369
                                                                        obtain rfl := Option.some.inj H
                                                                        exact wp_zret xi_270 dL_law_993 gz (KR _ _ rfl)
                                                                    · rw [if_neg c35] at H
                                                                      by_cases c36 : (x3 &&& 63) = 32
                                                                      · rw [if_pos c36] at H
                                                                        refine Wp.pure (p2 := 994) (ls2 := [some (.ref a0), some (.ref a1), some (.ref a2), some (.ref a3), some (.int a4), none, none, none]) (st2 := []) (h2 := h) xi_270 dL_law_39 rfl rfl rfl (by rw [c36]; rfl) ?_
                                                                        refine wp_aload_n xi_270 dL_law_994 rfl ?_
                                                                        refine wp_aload_n xi_270 dL_law_995 rfl ?_
                                                                        refine wp_iload xi_270 dL_law_996 rfl ?_
                                                                        refine wp_iconst 1 xi_270 dL_law_998 rfl ?_
                                                                        refine wp_iadd xi_270 dL_law_999 ?_
                                                                        obtain ⟨x370, gx370, H⟩ := Option.bind_eq_some_iff.mp H
                                                                        refine wq_iaload xi_270 dL_law_1000 gx370 ?_
                                                                        obtain ⟨u371, gu371, H⟩ := Option.bind_eq_some_iff.mp H
                                                                        obtain ⟨⟨x373, h372⟩, gh372, H⟩ := Option.bind_eq_some_iff.mp H
                                                                        dsimp only at H
                                                                        refine wq_callV (a := a1) (as := [.int x370]) (r := []) (v1 := (some (.int x373))) xi_270 xi_146 dL_law_1001 xm_13_163 rfl (Nat.le_of_ble_eq_true rfl) (pG_ok gu371) ⟨(Nat.le_of_ble_eq_true rfl), (Nat.le_of_ble_eq_true rfl)⟩ rfl nofun (e_146 (d + 118) _ gh372 ⟨rfl, rfl⟩) ?_
                                                                        change Wp _ _ _ _ [.int x373] _ _
                                                                        refine wp_aload_n xi_270 dL_law_1004 rfl ?_
                                                                        refine wp_aload_n xi_270 dL_law_1005 rfl ?_
                                                                        refine wp_iload xi_270 dL_law_1006 rfl ?_
                                                                        refine wp_iconst 1 xi_270 dL_law_1008 rfl ?_
                                                                        refine wp_iadd xi_270 dL_law_1009 ?_
                                                                        obtain ⟨x374, gx374, H⟩ := Option.bind_eq_some_iff.mp H
                                                                        refine wq_iaload xi_270 dL_law_1010 gx374 ?_
                                                                        obtain ⟨u375, gu375, H⟩ := Option.bind_eq_some_iff.mp H
                                                                        obtain ⟨⟨x377, h376⟩, gh376, H⟩ := Option.bind_eq_some_iff.mp H
                                                                        dsimp only at H
                                                                        refine wq_callV (a := a2) (as := [.int x374]) (r := [.int x373]) (v1 := (some (.int x377))) xi_270 xi_244 dL_law_1011 xm_13_166 rfl (Nat.le_of_ble_eq_true rfl) (pG_ok gu375) ⟨(Nat.le_of_ble_eq_true rfl), (Nat.le_of_ble_eq_true rfl)⟩ rfl nofun (e_244 (d + 117) _ gh376 ⟨rfl, rfl⟩) ?_
                                                                        change Wp _ _ _ _ [.int x377, .int x373] _ _
                                                                        refine wp_icmp_eq 1348 xi_270 dL_law_1014 rfl (fun c378 => ?_) (fun c378 => ?_)
                                                                        · rw [if_pos c378] at H
                                                                          refine wp_iinc (a4 + 5) [some (.ref a0), some (.ref a1), some (.ref a2), some (.ref a3), some (.int (a4 + 5)), none, none, none] xi_270 dL_law_1348 rfl rfl rfl ?_
                                                                          refine wp_goto 23 xi_270 dL_law_1351 rfl ?_
                                                                          exact Wp.more (by simp [xMore, Value.category]) (ih a0 a1 a2 a3 (a4 + 5) h376 _ H KE KR)
                                                                        · rw [if_neg c378] at H
                                                                          refine wp_iconst 0 xi_270 dL_law_1017 rfl ?_
                                                                          obtain ⟨q379, gq379, H⟩ := Option.bind_eq_some_iff.mp H
                                                                          obtain ⟨gz, rfl⟩ := pZ_ok gq379
                                                                          obtain rfl := Option.some.inj H
                                                                          exact wp_zret xi_270 dL_law_1018 gz (KR _ _ rfl)
                                                                      · rw [if_neg c36] at H
                                                                        by_cases c37 : (x3 &&& 63) = 33
                                                                        · rw [if_pos c37] at H
                                                                          refine Wp.pure (p2 := 1019) (ls2 := [some (.ref a0), some (.ref a1), some (.ref a2), some (.ref a3), some (.int a4), none, none, none]) (st2 := []) (h2 := h) xi_270 dL_law_39 rfl rfl rfl (by rw [c37]; rfl) ?_
                                                                          refine wp_aload_n xi_270 dL_law_1019 rfl ?_
                                                                          refine wp_aload_n xi_270 dL_law_1020 rfl ?_
                                                                          refine wp_iload xi_270 dL_law_1021 rfl ?_
                                                                          refine wp_iconst 1 xi_270 dL_law_1023 rfl ?_
                                                                          refine wp_iadd xi_270 dL_law_1024 ?_
                                                                          obtain ⟨x380, gx380, H⟩ := Option.bind_eq_some_iff.mp H
                                                                          refine wq_iaload xi_270 dL_law_1025 gx380 ?_
                                                                          refine wp_aload_n xi_270 dL_law_1026 rfl ?_
                                                                          refine wp_iload xi_270 dL_law_1027 rfl ?_
                                                                          refine wp_iconst 2 xi_270 dL_law_1029 rfl ?_
                                                                          refine wp_iadd xi_270 dL_law_1030 ?_
                                                                          obtain ⟨x381, gx381, H⟩ := Option.bind_eq_some_iff.mp H
                                                                          refine wq_iaload xi_270 dL_law_1031 gx381 ?_
                                                                          obtain ⟨u382, gu382, H⟩ := Option.bind_eq_some_iff.mp H
                                                                          obtain ⟨⟨x384, h383⟩, gh383, H⟩ := Option.bind_eq_some_iff.mp H
                                                                          dsimp only at H
                                                                          refine wq_callV (a := a1) (as := [.int x380, .int x381]) (r := []) (v1 := (some (.int x384))) xi_270 xi_148 dL_law_1032 xm_13_167 rfl (Nat.le_of_ble_eq_true rfl) (pG_ok gu382) ⟨(Nat.le_of_ble_eq_true rfl), (Nat.le_of_ble_eq_true rfl)⟩ rfl nofun (e_148 (d + 122) _ gh383 ⟨rfl, rfl⟩) ?_
                                                                          change Wp _ _ _ _ [.int x384] _ _
                                                                          refine wp_aload_n xi_270 dL_law_1035 rfl ?_
                                                                          refine wp_aload_n xi_270 dL_law_1036 rfl ?_
                                                                          refine wp_iload xi_270 dL_law_1037 rfl ?_
                                                                          refine wp_iconst 1 xi_270 dL_law_1039 rfl ?_
                                                                          refine wp_iadd xi_270 dL_law_1040 ?_
                                                                          obtain ⟨x385, gx385, H⟩ := Option.bind_eq_some_iff.mp H
                                                                          refine wq_iaload xi_270 dL_law_1041 gx385 ?_
                                                                          refine wp_aload_n xi_270 dL_law_1042 rfl ?_
                                                                          refine wp_iload xi_270 dL_law_1043 rfl ?_
                                                                          refine wp_iconst 2 xi_270 dL_law_1045 rfl ?_
                                                                          refine wp_iadd xi_270 dL_law_1046 ?_
                                                                          obtain ⟨x386, gx386, H⟩ := Option.bind_eq_some_iff.mp H
                                                                          refine wq_iaload xi_270 dL_law_1047 gx386 ?_
                                                                          obtain ⟨u387, gu387, H⟩ := Option.bind_eq_some_iff.mp H
                                                                          obtain ⟨⟨x389, h388⟩, gh388, H⟩ := Option.bind_eq_some_iff.mp H
                                                                          dsimp only at H
                                                                          refine wq_callV (a := a2) (as := [.int x385, .int x386]) (r := [.int x384]) (v1 := (some (.int x389))) xi_270 xi_246 dL_law_1048 xm_13_170 rfl (Nat.le_of_ble_eq_true rfl) (pG_ok gu387) ⟨(Nat.le_of_ble_eq_true rfl), (Nat.le_of_ble_eq_true rfl)⟩ rfl nofun (e_246 (d + 121) _ gh388 ⟨rfl, rfl⟩) ?_
                                                                          change Wp _ _ _ _ [.int x389, .int x384] _ _
                                                                          refine wp_icmp_eq 1348 xi_270 dL_law_1051 rfl (fun c390 => ?_) (fun c390 => ?_)
                                                                          · rw [if_pos c390] at H
                                                                            refine wp_iinc (a4 + 5) [some (.ref a0), some (.ref a1), some (.ref a2), some (.ref a3), some (.int (a4 + 5)), none, none, none] xi_270 dL_law_1348 rfl rfl rfl ?_
                                                                            refine wp_goto 23 xi_270 dL_law_1351 rfl ?_
                                                                            exact Wp.more (by simp [xMore, Value.category]) (ih a0 a1 a2 a3 (a4 + 5) h388 _ H KE KR)
                                                                          · rw [if_neg c390] at H
                                                                            refine wp_iconst 0 xi_270 dL_law_1054 rfl ?_
                                                                            obtain ⟨q391, gq391, H⟩ := Option.bind_eq_some_iff.mp H
                                                                            obtain ⟨gz, rfl⟩ := pZ_ok gq391
                                                                            obtain rfl := Option.some.inj H
                                                                            exact wp_zret xi_270 dL_law_1055 gz (KR _ _ rfl)
                                                                        · rw [if_neg c37] at H
                                                                          by_cases c38 : (x3 &&& 63) = 34
                                                                          · rw [if_pos c38] at H
                                                                            refine Wp.pure (p2 := 1056) (ls2 := [some (.ref a0), some (.ref a1), some (.ref a2), some (.ref a3), some (.int a4), none, none, none]) (st2 := []) (h2 := h) xi_270 dL_law_39 rfl rfl rfl (by rw [c38]; rfl) ?_
                                                                            refine wp_aload_n xi_270 dL_law_1056 rfl ?_
                                                                            refine wp_aload_n xi_270 dL_law_1057 rfl ?_
                                                                            refine wp_iload xi_270 dL_law_1058 rfl ?_
                                                                            refine wp_iconst 1 xi_270 dL_law_1060 rfl ?_
                                                                            refine wp_iadd xi_270 dL_law_1061 ?_
                                                                            obtain ⟨x392, gx392, H⟩ := Option.bind_eq_some_iff.mp H
                                                                            refine wq_iaload xi_270 dL_law_1062 gx392 ?_
                                                                            refine wp_aload_n xi_270 dL_law_1063 rfl ?_
                                                                            refine wp_iload xi_270 dL_law_1064 rfl ?_
                                                                            refine wp_iconst 2 xi_270 dL_law_1066 rfl ?_
                                                                            refine wp_iadd xi_270 dL_law_1067 ?_
                                                                            obtain ⟨x393, gx393, H⟩ := Option.bind_eq_some_iff.mp H
                                                                            refine wq_iaload xi_270 dL_law_1068 gx393 ?_
                                                                            refine wp_aload_n xi_270 dL_law_1069 rfl ?_
                                                                            refine wp_iload xi_270 dL_law_1070 rfl ?_
                                                                            refine wp_iconst 3 xi_270 dL_law_1072 rfl ?_
                                                                            refine wp_iadd xi_270 dL_law_1073 ?_
                                                                            obtain ⟨x394, gx394, H⟩ := Option.bind_eq_some_iff.mp H
                                                                            refine wq_iaload xi_270 dL_law_1074 gx394 ?_
                                                                            obtain ⟨u395, gu395, H⟩ := Option.bind_eq_some_iff.mp H
                                                                            obtain ⟨⟨x397, h396⟩, gh396, H⟩ := Option.bind_eq_some_iff.mp H
                                                                            dsimp only at H
                                                                            refine wq_callV (a := a1) (as := [.int x392, .int x393, .int x394]) (r := []) (v1 := (some (.int x397))) xi_270 xi_149 dL_law_1075 xm_13_171 rfl (Nat.le_of_ble_eq_true rfl) (pG_ok gu395) ⟨(Nat.le_of_ble_eq_true rfl), (Nat.le_of_ble_eq_true rfl)⟩ rfl nofun (e_149 (d + 122) _ gh396 ⟨rfl, rfl⟩) ?_
                                                                            change Wp _ _ _ _ [.int x397] _ _
                                                                            refine wp_aload_n xi_270 dL_law_1078 rfl ?_
                                                                            refine wp_aload_n xi_270 dL_law_1079 rfl ?_
                                                                            refine wp_iload xi_270 dL_law_1080 rfl ?_
                                                                            refine wp_iconst 1 xi_270 dL_law_1082 rfl ?_
                                                                            refine wp_iadd xi_270 dL_law_1083 ?_
                                                                            obtain ⟨x398, gx398, H⟩ := Option.bind_eq_some_iff.mp H
                                                                            refine wq_iaload xi_270 dL_law_1084 gx398 ?_
                                                                            refine wp_aload_n xi_270 dL_law_1085 rfl ?_
                                                                            refine wp_iload xi_270 dL_law_1086 rfl ?_
                                                                            refine wp_iconst 2 xi_270 dL_law_1088 rfl ?_
                                                                            refine wp_iadd xi_270 dL_law_1089 ?_
                                                                            obtain ⟨x399, gx399, H⟩ := Option.bind_eq_some_iff.mp H
                                                                            refine wq_iaload xi_270 dL_law_1090 gx399 ?_
                                                                            refine wp_aload_n xi_270 dL_law_1091 rfl ?_
                                                                            refine wp_iload xi_270 dL_law_1092 rfl ?_
                                                                            refine wp_iconst 3 xi_270 dL_law_1094 rfl ?_
                                                                            refine wp_iadd xi_270 dL_law_1095 ?_
                                                                            obtain ⟨x400, gx400, H⟩ := Option.bind_eq_some_iff.mp H
                                                                            refine wq_iaload xi_270 dL_law_1096 gx400 ?_
                                                                            obtain ⟨u401, gu401, H⟩ := Option.bind_eq_some_iff.mp H
                                                                            obtain ⟨⟨x403, h402⟩, gh402, H⟩ := Option.bind_eq_some_iff.mp H
                                                                            dsimp only at H
                                                                            refine wq_callV (a := a2) (as := [.int x398, .int x399, .int x400]) (r := [.int x397]) (v1 := (some (.int x403))) xi_270 xi_247 dL_law_1097 xm_13_175 rfl (Nat.le_of_ble_eq_true rfl) (pG_ok gu401) ⟨(Nat.le_of_ble_eq_true rfl), (Nat.le_of_ble_eq_true rfl)⟩ rfl nofun (e_247 (d + 121) _ gh402 ⟨rfl, rfl⟩) ?_
                                                                            change Wp _ _ _ _ [.int x403, .int x397] _ _
                                                                            refine wp_icmp_eq 1348 xi_270 dL_law_1100 rfl (fun c404 => ?_) (fun c404 => ?_)
                                                                            · rw [if_pos c404] at H
                                                                              refine wp_iinc (a4 + 5) [some (.ref a0), some (.ref a1), some (.ref a2), some (.ref a3), some (.int (a4 + 5)), none, none, none] xi_270 dL_law_1348 rfl rfl rfl ?_
                                                                              refine wp_goto 23 xi_270 dL_law_1351 rfl ?_
                                                                              exact Wp.more (by simp [xMore, Value.category]) (ih a0 a1 a2 a3 (a4 + 5) h402 _ H KE KR)
                                                                            · rw [if_neg c404] at H
                                                                              refine wp_iconst 0 xi_270 dL_law_1103 rfl ?_
                                                                              obtain ⟨q405, gq405, H⟩ := Option.bind_eq_some_iff.mp H
                                                                              obtain ⟨gz, rfl⟩ := pZ_ok gq405
                                                                              obtain rfl := Option.some.inj H
                                                                              exact wp_zret xi_270 dL_law_1104 gz (KR _ _ rfl)
                                                                          · rw [if_neg c38] at H
                                                                            by_cases c39 : (x3 &&& 63) = 35
                                                                            · rw [if_pos c39] at H
                                                                              refine Wp.pure (p2 := 1105) (ls2 := [some (.ref a0), some (.ref a1), some (.ref a2), some (.ref a3), some (.int a4), none, none, none]) (st2 := []) (h2 := h) xi_270 dL_law_39 rfl rfl rfl (by rw [c39]; rfl) ?_
                                                                              refine wp_aload_n xi_270 dL_law_1105 rfl ?_
                                                                              obtain ⟨u406, gu406, H⟩ := Option.bind_eq_some_iff.mp H
                                                                              obtain ⟨⟨x408, h407⟩, gh407, H⟩ := Option.bind_eq_some_iff.mp H
                                                                              dsimp only at H
                                                                              refine wq_callV (a := a1) (as := []) (r := []) (v1 := (some (.int x408))) xi_270 xi_150 dL_law_1106 xm_13_176 rfl (Nat.le_of_ble_eq_true rfl) (pG_ok gu406) ⟨(Nat.le_of_ble_eq_true rfl), (Nat.le_of_ble_eq_true rfl)⟩ rfl nofun (e_150 (d + 121) _ gh407 ⟨rfl, rfl⟩) ?_
                                                                              change Wp _ _ _ _ [.int x408] _ _
                                                                              refine wp_aload_n xi_270 dL_law_1109 rfl ?_
                                                                              obtain ⟨u409, gu409, H⟩ := Option.bind_eq_some_iff.mp H
                                                                              obtain ⟨⟨x411, h410⟩, gh410, H⟩ := Option.bind_eq_some_iff.mp H
                                                                              dsimp only at H
                                                                              refine wq_callV (a := a2) (as := []) (r := [.int x408]) (v1 := (some (.int x411))) xi_270 xi_248 dL_law_1110 xm_13_179 rfl (Nat.le_of_ble_eq_true rfl) (pG_ok gu409) ⟨(Nat.le_of_ble_eq_true rfl), (Nat.le_of_ble_eq_true rfl)⟩ rfl nofun (e_248 (d + 122) _ gh410 ⟨rfl, rfl⟩) ?_
                                                                              change Wp _ _ _ _ [.int x411, .int x408] _ _
                                                                              refine wp_icmp_eq 1348 xi_270 dL_law_1113 rfl (fun c412 => ?_) (fun c412 => ?_)
                                                                              · rw [if_pos c412] at H
                                                                                refine wp_iinc (a4 + 5) [some (.ref a0), some (.ref a1), some (.ref a2), some (.ref a3), some (.int (a4 + 5)), none, none, none] xi_270 dL_law_1348 rfl rfl rfl ?_
                                                                                refine wp_goto 23 xi_270 dL_law_1351 rfl ?_
                                                                                exact Wp.more (by simp [xMore, Value.category]) (ih a0 a1 a2 a3 (a4 + 5) h410 _ H KE KR)
                                                                              · rw [if_neg c412] at H
                                                                                refine wp_iconst 0 xi_270 dL_law_1116 rfl ?_
                                                                                obtain ⟨q413, gq413, H⟩ := Option.bind_eq_some_iff.mp H
                                                                                obtain ⟨gz, rfl⟩ := pZ_ok gq413
                                                                                obtain rfl := Option.some.inj H
                                                                                exact wp_zret xi_270 dL_law_1117 gz (KR _ _ rfl)
                                                                            · rw [if_neg c39] at H
                                                                              by_cases c40 : (x3 &&& 63) = 36
                                                                              · rw [if_pos c40] at H
                                                                                refine Wp.pure (p2 := 1118) (ls2 := [some (.ref a0), some (.ref a1), some (.ref a2), some (.ref a3), some (.int a4), none, none, none]) (st2 := []) (h2 := h) xi_270 dL_law_39 rfl rfl rfl (by rw [c40]; rfl) ?_
                                                                                refine wp_aload_n xi_270 dL_law_1118 rfl ?_
                                                                                refine wp_aload_n xi_270 dL_law_1119 rfl ?_
                                                                                refine wp_iload xi_270 dL_law_1120 rfl ?_
                                                                                refine wp_iconst 1 xi_270 dL_law_1122 rfl ?_
                                                                                refine wp_iadd xi_270 dL_law_1123 ?_
                                                                                obtain ⟨x414, gx414, H⟩ := Option.bind_eq_some_iff.mp H
                                                                                refine wq_iaload xi_270 dL_law_1124 gx414 ?_
                                                                                obtain ⟨u415, gu415, H⟩ := Option.bind_eq_some_iff.mp H
                                                                                obtain ⟨⟨x417, h416⟩, gh416, H⟩ := Option.bind_eq_some_iff.mp H
                                                                                dsimp only at H
                                                                                refine wq_callV (a := a1) (as := [.int x414]) (r := []) (v1 := (some (.int x417))) xi_270 xi_151 dL_law_1125 xm_13_180 rfl (Nat.le_of_ble_eq_true rfl) (pG_ok gu415) ⟨(Nat.le_of_ble_eq_true rfl), (Nat.le_of_ble_eq_true rfl)⟩ rfl nofun (e_151 (d + 120) _ gh416 ⟨rfl, rfl⟩) ?_
                                                                                change Wp _ _ _ _ [.int x417] _ _
                                                                                refine wp_aload_n xi_270 dL_law_1128 rfl ?_
                                                                                refine wp_aload_n xi_270 dL_law_1129 rfl ?_
                                                                                refine wp_iload xi_270 dL_law_1130 rfl ?_
                                                                                refine wp_iconst 1 xi_270 dL_law_1132 rfl ?_
                                                                                refine wp_iadd xi_270 dL_law_1133 ?_
                                                                                obtain ⟨x418, gx418, H⟩ := Option.bind_eq_some_iff.mp H
                                                                                refine wq_iaload xi_270 dL_law_1134 gx418 ?_
                                                                                obtain ⟨u419, gu419, H⟩ := Option.bind_eq_some_iff.mp H
                                                                                obtain ⟨⟨x421, h420⟩, gh420, H⟩ := Option.bind_eq_some_iff.mp H
                                                                                dsimp only at H
                                                                                refine wq_callV (a := a2) (as := [.int x418]) (r := [.int x417]) (v1 := (some (.int x421))) xi_270 xi_255 dL_law_1135 xm_13_183 rfl (Nat.le_of_ble_eq_true rfl) (pG_ok gu419) ⟨(Nat.le_of_ble_eq_true rfl), (Nat.le_of_ble_eq_true rfl)⟩ rfl nofun (e_255 (d + 120) _ gh420 ⟨rfl, rfl⟩) ?_
                                                                                change Wp _ _ _ _ [.int x421, .int x417] _ _
                                                                                refine wp_icmp_eq 1348 xi_270 dL_law_1138 rfl (fun c422 => ?_) (fun c422 => ?_)
                                                                                · rw [if_pos c422] at H
                                                                                  refine wp_iinc (a4 + 5) [some (.ref a0), some (.ref a1), some (.ref a2), some (.ref a3), some (.int (a4 + 5)), none, none, none] xi_270 dL_law_1348 rfl rfl rfl ?_
                                                                                  refine wp_goto 23 xi_270 dL_law_1351 rfl ?_
                                                                                  exact Wp.more (by simp [xMore, Value.category]) (ih a0 a1 a2 a3 (a4 + 5) h420 _ H KE KR)
                                                                                · rw [if_neg c422] at H
                                                                                  refine wp_iconst 0 xi_270 dL_law_1141 rfl ?_
                                                                                  obtain ⟨q423, gq423, H⟩ := Option.bind_eq_some_iff.mp H
                                                                                  obtain ⟨gz, rfl⟩ := pZ_ok gq423
                                                                                  obtain rfl := Option.some.inj H
                                                                                  exact wp_zret xi_270 dL_law_1142 gz (KR _ _ rfl)
                                                                              · rw [if_neg c40] at H
                                                                                by_cases c41 : (x3 &&& 63) = 37
                                                                                · rw [if_pos c41] at H
                                                                                  refine Wp.pure (p2 := 1143) (ls2 := [some (.ref a0), some (.ref a1), some (.ref a2), some (.ref a3), some (.int a4), none, none, none]) (st2 := []) (h2 := h) xi_270 dL_law_39 rfl rfl rfl (by rw [c41]; rfl) ?_
                                                                                  refine wp_aload_n xi_270 dL_law_1143 rfl ?_
                                                                                  refine wp_aload_n xi_270 dL_law_1144 rfl ?_
                                                                                  refine wp_iload xi_270 dL_law_1145 rfl ?_
                                                                                  refine wp_iconst 1 xi_270 dL_law_1147 rfl ?_
                                                                                  refine wp_iadd xi_270 dL_law_1148 ?_
                                                                                  obtain ⟨x424, gx424, H⟩ := Option.bind_eq_some_iff.mp H
                                                                                  refine wq_iaload xi_270 dL_law_1149 gx424 ?_
                                                                                  obtain ⟨u425, gu425, H⟩ := Option.bind_eq_some_iff.mp H
                                                                                  obtain ⟨⟨x427, h426⟩, gh426, H⟩ := Option.bind_eq_some_iff.mp H
                                                                                  dsimp only at H
                                                                                  refine wq_callV (a := a1) (as := [.int x424]) (r := []) (v1 := (some (.int x427))) xi_270 xi_153 dL_law_1150 xm_13_184 rfl (Nat.le_of_ble_eq_true rfl) (pG_ok gu425) ⟨(Nat.le_of_ble_eq_true rfl), (Nat.le_of_ble_eq_true rfl)⟩ rfl nofun (e_153 (d + 120) _ gh426 ⟨rfl, rfl⟩) ?_
                                                                                  change Wp _ _ _ _ [.int x427] _ _
                                                                                  refine wp_aload_n xi_270 dL_law_1153 rfl ?_
                                                                                  refine wp_aload_n xi_270 dL_law_1154 rfl ?_
                                                                                  refine wp_iload xi_270 dL_law_1155 rfl ?_
                                                                                  refine wp_iconst 1 xi_270 dL_law_1157 rfl ?_
                                                                                  refine wp_iadd xi_270 dL_law_1158 ?_
                                                                                  obtain ⟨x428, gx428, H⟩ := Option.bind_eq_some_iff.mp H
                                                                                  refine wq_iaload xi_270 dL_law_1159 gx428 ?_
                                                                                  obtain ⟨u429, gu429, H⟩ := Option.bind_eq_some_iff.mp H
                                                                                  obtain ⟨⟨x431, h430⟩, gh430, H⟩ := Option.bind_eq_some_iff.mp H
                                                                                  dsimp only at H
                                                                                  refine wq_callV (a := a2) (as := [.int x428]) (r := [.int x427]) (v1 := (some (.int x431))) xi_270 xi_256 dL_law_1160 xm_13_187 rfl (Nat.le_of_ble_eq_true rfl) (pG_ok gu429) ⟨(Nat.le_of_ble_eq_true rfl), (Nat.le_of_ble_eq_true rfl)⟩ rfl nofun (e_256 (d + 120) _ gh430 ⟨rfl, rfl⟩) ?_
                                                                                  change Wp _ _ _ _ [.int x431, .int x427] _ _
                                                                                  refine wp_icmp_eq 1348 xi_270 dL_law_1163 rfl (fun c432 => ?_) (fun c432 => ?_)
                                                                                  · rw [if_pos c432] at H
                                                                                    refine wp_iinc (a4 + 5) [some (.ref a0), some (.ref a1), some (.ref a2), some (.ref a3), some (.int (a4 + 5)), none, none, none] xi_270 dL_law_1348 rfl rfl rfl ?_
                                                                                    refine wp_goto 23 xi_270 dL_law_1351 rfl ?_
                                                                                    exact Wp.more (by simp [xMore, Value.category]) (ih a0 a1 a2 a3 (a4 + 5) h430 _ H KE KR)
                                                                                  · rw [if_neg c432] at H
                                                                                    refine wp_iconst 0 xi_270 dL_law_1166 rfl ?_
                                                                                    obtain ⟨q433, gq433, H⟩ := Option.bind_eq_some_iff.mp H
                                                                                    obtain ⟨gz, rfl⟩ := pZ_ok gq433
                                                                                    obtain rfl := Option.some.inj H
                                                                                    exact wp_zret xi_270 dL_law_1167 gz (KR _ _ rfl)
                                                                                · rw [if_neg c41] at H
                                                                                  by_cases c42 : (x3 &&& 63) = 38
                                                                                  · rw [if_pos c42] at H
                                                                                    refine Wp.pure (p2 := 1168) (ls2 := [some (.ref a0), some (.ref a1), some (.ref a2), some (.ref a3), some (.int a4), none, none, none]) (st2 := []) (h2 := h) xi_270 dL_law_39 rfl rfl rfl (by rw [c42]; rfl) ?_
                                                                                    refine wp_aload_n xi_270 dL_law_1168 rfl ?_
                                                                                    refine wp_aload_n xi_270 dL_law_1169 rfl ?_
                                                                                    refine wp_iload xi_270 dL_law_1170 rfl ?_
                                                                                    refine wp_iconst 1 xi_270 dL_law_1172 rfl ?_
                                                                                    refine wp_iadd xi_270 dL_law_1173 ?_
                                                                                    obtain ⟨x434, gx434, H⟩ := Option.bind_eq_some_iff.mp H
                                                                                    refine wq_iaload xi_270 dL_law_1174 gx434 ?_
                                                                                    obtain ⟨u435, gu435, H⟩ := Option.bind_eq_some_iff.mp H
                                                                                    obtain ⟨⟨x437, h436⟩, gh436, H⟩ := Option.bind_eq_some_iff.mp H
                                                                                    dsimp only at H
                                                                                    refine wq_callV (a := a1) (as := [.int x434]) (r := []) (v1 := (some (.int x437))) xi_270 xi_154 dL_law_1175 xm_13_188 rfl (Nat.le_of_ble_eq_true rfl) (pG_ok gu435) ⟨(Nat.le_of_ble_eq_true rfl), (Nat.le_of_ble_eq_true rfl)⟩ rfl nofun (e_154 (d + 120) _ gh436 ⟨rfl, rfl⟩) ?_
                                                                                    change Wp _ _ _ _ [.int x437] _ _
                                                                                    refine wp_aload_n xi_270 dL_law_1178 rfl ?_
                                                                                    refine wp_aload_n xi_270 dL_law_1179 rfl ?_
                                                                                    refine wp_iload xi_270 dL_law_1180 rfl ?_
                                                                                    refine wp_iconst 1 xi_270 dL_law_1182 rfl ?_
                                                                                    refine wp_iadd xi_270 dL_law_1183 ?_
                                                                                    obtain ⟨x438, gx438, H⟩ := Option.bind_eq_some_iff.mp H
                                                                                    refine wq_iaload xi_270 dL_law_1184 gx438 ?_
                                                                                    obtain ⟨u439, gu439, H⟩ := Option.bind_eq_some_iff.mp H
                                                                                    obtain ⟨⟨x441, h440⟩, gh440, H⟩ := Option.bind_eq_some_iff.mp H
                                                                                    dsimp only at H
                                                                                    refine wq_callV (a := a2) (as := [.int x438]) (r := [.int x437]) (v1 := (some (.int x441))) xi_270 xi_258 dL_law_1185 xm_13_191 rfl (Nat.le_of_ble_eq_true rfl) (pG_ok gu439) ⟨(Nat.le_of_ble_eq_true rfl), (Nat.le_of_ble_eq_true rfl)⟩ rfl nofun (e_258 (d + 120) _ gh440 ⟨rfl, rfl⟩) ?_
                                                                                    change Wp _ _ _ _ [.int x441, .int x437] _ _
                                                                                    refine wp_icmp_eq 1348 xi_270 dL_law_1188 rfl (fun c442 => ?_) (fun c442 => ?_)
                                                                                    · rw [if_pos c442] at H
                                                                                      refine wp_iinc (a4 + 5) [some (.ref a0), some (.ref a1), some (.ref a2), some (.ref a3), some (.int (a4 + 5)), none, none, none] xi_270 dL_law_1348 rfl rfl rfl ?_
                                                                                      refine wp_goto 23 xi_270 dL_law_1351 rfl ?_
                                                                                      exact Wp.more (by simp [xMore, Value.category]) (ih a0 a1 a2 a3 (a4 + 5) h440 _ H KE KR)
                                                                                    · rw [if_neg c442] at H
                                                                                      refine wp_iconst 0 xi_270 dL_law_1191 rfl ?_
                                                                                      obtain ⟨q443, gq443, H⟩ := Option.bind_eq_some_iff.mp H
                                                                                      obtain ⟨gz, rfl⟩ := pZ_ok gq443
                                                                                      obtain rfl := Option.some.inj H
                                                                                      exact wp_zret xi_270 dL_law_1192 gz (KR _ _ rfl)
                                                                                  · rw [if_neg c42] at H
                                                                                    by_cases c43 : (x3 &&& 63) = 39
                                                                                    · rw [if_pos c43] at H
                                                                                      refine Wp.pure (p2 := 1193) (ls2 := [some (.ref a0), some (.ref a1), some (.ref a2), some (.ref a3), some (.int a4), none, none, none]) (st2 := []) (h2 := h) xi_270 dL_law_39 rfl rfl rfl (by rw [c43]; rfl) ?_
                                                                                      refine wp_aload_n xi_270 dL_law_1193 rfl ?_
                                                                                      refine wp_aload_n xi_270 dL_law_1194 rfl ?_
                                                                                      refine wp_iload xi_270 dL_law_1195 rfl ?_
                                                                                      refine wp_iconst 1 xi_270 dL_law_1197 rfl ?_
                                                                                      refine wp_iadd xi_270 dL_law_1198 ?_
                                                                                      obtain ⟨x444, gx444, H⟩ := Option.bind_eq_some_iff.mp H
                                                                                      refine wq_iaload xi_270 dL_law_1199 gx444 ?_
                                                                                      obtain ⟨u445, gu445, H⟩ := Option.bind_eq_some_iff.mp H
                                                                                      obtain ⟨⟨x447, h446⟩, gh446, H⟩ := Option.bind_eq_some_iff.mp H
                                                                                      dsimp only at H
                                                                                      refine wq_callV (a := a1) (as := [.int x444]) (r := []) (v1 := (some (.int x447))) xi_270 xi_155 dL_law_1200 xm_13_192 rfl (Nat.le_of_ble_eq_true rfl) (pG_ok gu445) ⟨(Nat.le_of_ble_eq_true rfl), (Nat.le_of_ble_eq_true rfl)⟩ rfl nofun (e_155 (d + 120) _ gh446 ⟨rfl, rfl⟩) ?_
                                                                                      change Wp _ _ _ _ [.int x447] _ _
                                                                                      refine wp_aload_n xi_270 dL_law_1203 rfl ?_
                                                                                      refine wp_aload_n xi_270 dL_law_1204 rfl ?_
                                                                                      refine wp_iload xi_270 dL_law_1205 rfl ?_
                                                                                      refine wp_iconst 1 xi_270 dL_law_1207 rfl ?_
                                                                                      refine wp_iadd xi_270 dL_law_1208 ?_
                                                                                      obtain ⟨x448, gx448, H⟩ := Option.bind_eq_some_iff.mp H
                                                                                      refine wq_iaload xi_270 dL_law_1209 gx448 ?_
                                                                                      obtain ⟨u449, gu449, H⟩ := Option.bind_eq_some_iff.mp H
                                                                                      obtain ⟨⟨x451, h450⟩, gh450, H⟩ := Option.bind_eq_some_iff.mp H
                                                                                      dsimp only at H
                                                                                      refine wq_callV (a := a2) (as := [.int x448]) (r := [.int x447]) (v1 := (some (.int x451))) xi_270 xi_259 dL_law_1210 xm_13_195 rfl (Nat.le_of_ble_eq_true rfl) (pG_ok gu449) ⟨(Nat.le_of_ble_eq_true rfl), (Nat.le_of_ble_eq_true rfl)⟩ rfl nofun (e_259 (d + 120) _ gh450 ⟨rfl, rfl⟩) ?_
                                                                                      change Wp _ _ _ _ [.int x451, .int x447] _ _
                                                                                      refine wp_icmp_eq 1348 xi_270 dL_law_1213 rfl (fun c452 => ?_) (fun c452 => ?_)
                                                                                      · rw [if_pos c452] at H
                                                                                        refine wp_iinc (a4 + 5) [some (.ref a0), some (.ref a1), some (.ref a2), some (.ref a3), some (.int (a4 + 5)), none, none, none] xi_270 dL_law_1348 rfl rfl rfl ?_
                                                                                        refine wp_goto 23 xi_270 dL_law_1351 rfl ?_
                                                                                        exact Wp.more (by simp [xMore, Value.category]) (ih a0 a1 a2 a3 (a4 + 5) h450 _ H KE KR)
                                                                                      · rw [if_neg c452] at H
                                                                                        refine wp_iconst 0 xi_270 dL_law_1216 rfl ?_
                                                                                        obtain ⟨q453, gq453, H⟩ := Option.bind_eq_some_iff.mp H
                                                                                        obtain ⟨gz, rfl⟩ := pZ_ok gq453
                                                                                        obtain rfl := Option.some.inj H
                                                                                        exact wp_zret xi_270 dL_law_1217 gz (KR _ _ rfl)
                                                                                    · rw [if_neg c43] at H
                                                                                      by_cases c44 : (x3 &&& 63) = 40
                                                                                      · rw [if_pos c44] at H
                                                                                        refine Wp.pure (p2 := 1218) (ls2 := [some (.ref a0), some (.ref a1), some (.ref a2), some (.ref a3), some (.int a4), none, none, none]) (st2 := []) (h2 := h) xi_270 dL_law_39 rfl rfl rfl (by rw [c44]; rfl) ?_
                                                                                        refine wp_aload_n xi_270 dL_law_1218 rfl ?_
                                                                                        refine wp_aload_n xi_270 dL_law_1219 rfl ?_
                                                                                        refine wp_iload xi_270 dL_law_1220 rfl ?_
                                                                                        refine wp_iconst 1 xi_270 dL_law_1222 rfl ?_
                                                                                        refine wp_iadd xi_270 dL_law_1223 ?_
                                                                                        obtain ⟨x454, gx454, H⟩ := Option.bind_eq_some_iff.mp H
                                                                                        refine wq_iaload xi_270 dL_law_1224 gx454 ?_
                                                                                        obtain ⟨u455, gu455, H⟩ := Option.bind_eq_some_iff.mp H
                                                                                        obtain ⟨⟨x457, h456⟩, gh456, H⟩ := Option.bind_eq_some_iff.mp H
                                                                                        dsimp only at H
                                                                                        refine wq_callV (a := a1) (as := [.int x454]) (r := []) (v1 := (some (.int x457))) xi_270 xi_156 dL_law_1225 xm_13_196 rfl (Nat.le_of_ble_eq_true rfl) (pG_ok gu455) ⟨(Nat.le_of_ble_eq_true rfl), (Nat.le_of_ble_eq_true rfl)⟩ rfl nofun (e_156 (d + 121) _ gh456 ⟨rfl, rfl⟩) ?_
                                                                                        change Wp _ _ _ _ [.int x457] _ _
                                                                                        refine wp_aload_n xi_270 dL_law_1228 rfl ?_
                                                                                        refine wp_aload_n xi_270 dL_law_1229 rfl ?_
                                                                                        refine wp_iload xi_270 dL_law_1230 rfl ?_
                                                                                        refine wp_iconst 1 xi_270 dL_law_1232 rfl ?_
                                                                                        refine wp_iadd xi_270 dL_law_1233 ?_
                                                                                        obtain ⟨x458, gx458, H⟩ := Option.bind_eq_some_iff.mp H
                                                                                        refine wq_iaload xi_270 dL_law_1234 gx458 ?_
                                                                                        obtain ⟨u459, gu459, H⟩ := Option.bind_eq_some_iff.mp H
                                                                                        obtain ⟨⟨x461, h460⟩, gh460, H⟩ := Option.bind_eq_some_iff.mp H
                                                                                        dsimp only at H
                                                                                        refine wq_callV (a := a2) (as := [.int x458]) (r := [.int x457]) (v1 := (some (.int x461))) xi_270 xi_260 dL_law_1235 xm_13_199 rfl (Nat.le_of_ble_eq_true rfl) (pG_ok gu459) ⟨(Nat.le_of_ble_eq_true rfl), (Nat.le_of_ble_eq_true rfl)⟩ rfl nofun (e_260 (d + 122) _ gh460 ⟨rfl, rfl⟩) ?_
                                                                                        change Wp _ _ _ _ [.int x461, .int x457] _ _
                                                                                        refine wp_icmp_eq 1348 xi_270 dL_law_1238 rfl (fun c462 => ?_) (fun c462 => ?_)
                                                                                        · rw [if_pos c462] at H
                                                                                          refine wp_iinc (a4 + 5) [some (.ref a0), some (.ref a1), some (.ref a2), some (.ref a3), some (.int (a4 + 5)), none, none, none] xi_270 dL_law_1348 rfl rfl rfl ?_
                                                                                          refine wp_goto 23 xi_270 dL_law_1351 rfl ?_
                                                                                          exact Wp.more (by simp [xMore, Value.category]) (ih a0 a1 a2 a3 (a4 + 5) h460 _ H KE KR)
                                                                                        · rw [if_neg c462] at H
                                                                                          refine wp_iconst 0 xi_270 dL_law_1241 rfl ?_
                                                                                          obtain ⟨q463, gq463, H⟩ := Option.bind_eq_some_iff.mp H
                                                                                          obtain ⟨gz, rfl⟩ := pZ_ok gq463
                                                                                          obtain rfl := Option.some.inj H
                                                                                          exact wp_zret xi_270 dL_law_1242 gz (KR _ _ rfl)
                                                                                      · rw [if_neg c44] at H
                                                                                        by_cases c45 : (x3 &&& 63) = 41
                                                                                        · rw [if_pos c45] at H
                                                                                          refine Wp.pure (p2 := 1243) (ls2 := [some (.ref a0), some (.ref a1), some (.ref a2), some (.ref a3), some (.int a4), none, none, none]) (st2 := []) (h2 := h) xi_270 dL_law_39 rfl rfl rfl (by rw [c45]; rfl) ?_
                                                                                          refine wp_aload_n xi_270 dL_law_1243 rfl ?_
                                                                                          refine wp_aload_n xi_270 dL_law_1244 rfl ?_
                                                                                          refine wp_iload xi_270 dL_law_1245 rfl ?_
                                                                                          refine wp_iconst 1 xi_270 dL_law_1247 rfl ?_
                                                                                          refine wp_iadd xi_270 dL_law_1248 ?_
                                                                                          obtain ⟨x464, gx464, H⟩ := Option.bind_eq_some_iff.mp H
                                                                                          refine wq_iaload xi_270 dL_law_1249 gx464 ?_
                                                                                          obtain ⟨u465, gu465, H⟩ := Option.bind_eq_some_iff.mp H
                                                                                          obtain ⟨⟨x467, h466⟩, gh466, H⟩ := Option.bind_eq_some_iff.mp H
                                                                                          dsimp only at H
                                                                                          refine wq_callV (a := a1) (as := [.int x464]) (r := []) (v1 := (some (.int x467))) xi_270 xi_157 dL_law_1250 xm_13_200 rfl (Nat.le_of_ble_eq_true rfl) (pG_ok gu465) ⟨(Nat.le_of_ble_eq_true rfl), (Nat.le_of_ble_eq_true rfl)⟩ rfl nofun (e_157 (d + 121) _ gh466 ⟨rfl, rfl⟩) ?_
                                                                                          change Wp _ _ _ _ [.int x467] _ _
                                                                                          refine wp_aload_n xi_270 dL_law_1253 rfl ?_
                                                                                          refine wp_aload_n xi_270 dL_law_1254 rfl ?_
                                                                                          refine wp_iload xi_270 dL_law_1255 rfl ?_
                                                                                          refine wp_iconst 1 xi_270 dL_law_1257 rfl ?_
                                                                                          refine wp_iadd xi_270 dL_law_1258 ?_
                                                                                          obtain ⟨x468, gx468, H⟩ := Option.bind_eq_some_iff.mp H
                                                                                          refine wq_iaload xi_270 dL_law_1259 gx468 ?_
                                                                                          obtain ⟨u469, gu469, H⟩ := Option.bind_eq_some_iff.mp H
                                                                                          obtain ⟨⟨x471, h470⟩, gh470, H⟩ := Option.bind_eq_some_iff.mp H
                                                                                          dsimp only at H
                                                                                          refine wq_callV (a := a2) (as := [.int x468]) (r := [.int x467]) (v1 := (some (.int x471))) xi_270 xi_261 dL_law_1260 xm_13_203 rfl (Nat.le_of_ble_eq_true rfl) (pG_ok gu469) ⟨(Nat.le_of_ble_eq_true rfl), (Nat.le_of_ble_eq_true rfl)⟩ rfl nofun (e_261 (d + 122) _ gh470 ⟨rfl, rfl⟩) ?_
                                                                                          change Wp _ _ _ _ [.int x471, .int x467] _ _
                                                                                          refine wp_icmp_eq 1348 xi_270 dL_law_1263 rfl (fun c472 => ?_) (fun c472 => ?_)
                                                                                          · rw [if_pos c472] at H
                                                                                            refine wp_iinc (a4 + 5) [some (.ref a0), some (.ref a1), some (.ref a2), some (.ref a3), some (.int (a4 + 5)), none, none, none] xi_270 dL_law_1348 rfl rfl rfl ?_
                                                                                            refine wp_goto 23 xi_270 dL_law_1351 rfl ?_
                                                                                            exact Wp.more (by simp [xMore, Value.category]) (ih a0 a1 a2 a3 (a4 + 5) h470 _ H KE KR)
                                                                                          · rw [if_neg c472] at H
                                                                                            refine wp_iconst 0 xi_270 dL_law_1266 rfl ?_
                                                                                            obtain ⟨q473, gq473, H⟩ := Option.bind_eq_some_iff.mp H
                                                                                            obtain ⟨gz, rfl⟩ := pZ_ok gq473
                                                                                            obtain rfl := Option.some.inj H
                                                                                            exact wp_zret xi_270 dL_law_1267 gz (KR _ _ rfl)
                                                                                        · rw [if_neg c45] at H
                                                                                          by_cases c46 : (x3 &&& 63) = 42
                                                                                          · rw [if_pos c46] at H
                                                                                            refine Wp.pure (p2 := 1268) (ls2 := [some (.ref a0), some (.ref a1), some (.ref a2), some (.ref a3), some (.int a4), none, none, none]) (st2 := []) (h2 := h) xi_270 dL_law_39 rfl rfl rfl (by rw [c46]; rfl) ?_
                                                                                            refine wp_aload_n xi_270 dL_law_1268 rfl ?_
                                                                                            refine wp_aload_n xi_270 dL_law_1269 rfl ?_
                                                                                            refine wp_iload xi_270 dL_law_1270 rfl ?_
                                                                                            refine wp_iconst 1 xi_270 dL_law_1272 rfl ?_
                                                                                            refine wp_iadd xi_270 dL_law_1273 ?_
                                                                                            obtain ⟨x474, gx474, H⟩ := Option.bind_eq_some_iff.mp H
                                                                                            refine wq_iaload xi_270 dL_law_1274 gx474 ?_
                                                                                            obtain ⟨u475, gu475, H⟩ := Option.bind_eq_some_iff.mp H
                                                                                            obtain ⟨⟨x477, h476⟩, gh476, H⟩ := Option.bind_eq_some_iff.mp H
                                                                                            dsimp only at H
                                                                                            refine wq_callV (a := a1) (as := [.int x474]) (r := []) (v1 := (some (.int x477))) xi_270 xi_158 dL_law_1275 xm_13_204 rfl (Nat.le_of_ble_eq_true rfl) (pG_ok gu475) ⟨(Nat.le_of_ble_eq_true rfl), (Nat.le_of_ble_eq_true rfl)⟩ rfl nofun (e_158 (d + 120) _ gh476 ⟨rfl, rfl⟩) ?_
                                                                                            change Wp _ _ _ _ [.int x477] _ _
                                                                                            refine wp_aload_n xi_270 dL_law_1278 rfl ?_
                                                                                            refine wp_aload_n xi_270 dL_law_1279 rfl ?_
                                                                                            refine wp_iload xi_270 dL_law_1280 rfl ?_
                                                                                            refine wp_iconst 1 xi_270 dL_law_1282 rfl ?_
                                                                                            refine wp_iadd xi_270 dL_law_1283 ?_
                                                                                            obtain ⟨x478, gx478, H⟩ := Option.bind_eq_some_iff.mp H
                                                                                            refine wq_iaload xi_270 dL_law_1284 gx478 ?_
                                                                                            obtain ⟨u479, gu479, H⟩ := Option.bind_eq_some_iff.mp H
                                                                                            obtain ⟨⟨x481, h480⟩, gh480, H⟩ := Option.bind_eq_some_iff.mp H
                                                                                            dsimp only at H
                                                                                            refine wq_callV (a := a2) (as := [.int x478]) (r := [.int x477]) (v1 := (some (.int x481))) xi_270 xi_263 dL_law_1285 xm_13_207 rfl (Nat.le_of_ble_eq_true rfl) (pG_ok gu479) ⟨(Nat.le_of_ble_eq_true rfl), (Nat.le_of_ble_eq_true rfl)⟩ rfl nofun (e_263 (d + 120) _ gh480 ⟨rfl, rfl⟩) ?_
                                                                                            change Wp _ _ _ _ [.int x481, .int x477] _ _
                                                                                            refine wp_icmp_eq 1348 xi_270 dL_law_1288 rfl (fun c482 => ?_) (fun c482 => ?_)
                                                                                            · rw [if_pos c482] at H
                                                                                              refine wp_iinc (a4 + 5) [some (.ref a0), some (.ref a1), some (.ref a2), some (.ref a3), some (.int (a4 + 5)), none, none, none] xi_270 dL_law_1348 rfl rfl rfl ?_
                                                                                              refine wp_goto 23 xi_270 dL_law_1351 rfl ?_
                                                                                              exact Wp.more (by simp [xMore, Value.category]) (ih a0 a1 a2 a3 (a4 + 5) h480 _ H KE KR)
                                                                                            · rw [if_neg c482] at H
                                                                                              refine wp_iconst 0 xi_270 dL_law_1291 rfl ?_
                                                                                              obtain ⟨q483, gq483, H⟩ := Option.bind_eq_some_iff.mp H
                                                                                              obtain ⟨gz, rfl⟩ := pZ_ok gq483
                                                                                              obtain rfl := Option.some.inj H
                                                                                              exact wp_zret xi_270 dL_law_1292 gz (KR _ _ rfl)
                                                                                          · rw [if_neg c46] at H
                                                                                            by_cases c47 : (x3 &&& 63) = 43
                                                                                            · rw [if_pos c47] at H
                                                                                              refine Wp.pure (p2 := 1293) (ls2 := [some (.ref a0), some (.ref a1), some (.ref a2), some (.ref a3), some (.int a4), none, none, none]) (st2 := []) (h2 := h) xi_270 dL_law_39 rfl rfl rfl (by rw [c47]; rfl) ?_
                                                                                              refine wp_aload_n xi_270 dL_law_1293 rfl ?_
                                                                                              refine wp_aload_n xi_270 dL_law_1294 rfl ?_
                                                                                              refine wp_iload xi_270 dL_law_1295 rfl ?_
                                                                                              refine wp_iconst 1 xi_270 dL_law_1297 rfl ?_
                                                                                              refine wp_iadd xi_270 dL_law_1298 ?_
                                                                                              obtain ⟨x484, gx484, H⟩ := Option.bind_eq_some_iff.mp H
                                                                                              refine wq_iaload xi_270 dL_law_1299 gx484 ?_
                                                                                              refine wp_aload_n xi_270 dL_law_1300 rfl ?_
                                                                                              obtain ⟨u485, gu485, H⟩ := Option.bind_eq_some_iff.mp H
                                                                                              obtain ⟨⟨q486, h487⟩, gh487, H⟩ := Option.bind_eq_some_iff.mp H
                                                                                              dsimp only at H
                                                                                              obtain ⟨⟨x488, h489⟩, gh489, H⟩ := Option.bind_eq_some_iff.mp H
                                                                                              dsimp only at H
                                                                                              refine wq_try (N := 159) (a := a1) (as := [.int x484]) (r := []) (v1 := (some (xOl q486))) xi_270 xi_159 dL_law_1301 xm_13_208 rfl rfl rfl rfl (Nat.le_of_ble_eq_true rfl) (pG_ok gu485) ⟨(Nat.le_of_ble_eq_true rfl), (Nat.le_of_ble_eq_true rfl)⟩ rfl (e_159 (d + 122) _ gh487 ⟨rfl, rfl⟩) gh489 ?_
                                                                                              refine wp_istore [some (.ref a0), some (.ref a1), some (.ref a2), some (.ref a3), some (.int a4), some (.int x488), none, none] xi_270 dL_law_1304 rfl ?_
                                                                                              refine wp_aload_n xi_270 dL_law_1306 rfl ?_
                                                                                              refine wp_aload_n xi_270 dL_law_1307 rfl ?_
                                                                                              refine wp_iload xi_270 dL_law_1308 rfl ?_
                                                                                              refine wp_iconst 1 xi_270 dL_law_1310 rfl ?_
                                                                                              refine wp_iadd xi_270 dL_law_1311 ?_
                                                                                              obtain ⟨x490, gx490, H⟩ := Option.bind_eq_some_iff.mp H
                                                                                              refine wq_iaload xi_270 dL_law_1312 gx490 ?_
                                                                                              obtain ⟨u491, gu491, H⟩ := Option.bind_eq_some_iff.mp H
                                                                                              obtain ⟨⟨x493, h492⟩, gh492, H⟩ := Option.bind_eq_some_iff.mp H
                                                                                              dsimp only at H
                                                                                              refine wq_callV (a := a2) (as := [.int x490]) (r := []) (v1 := (some (.long x493))) xi_270 xi_264 dL_law_1313 xm_13_211 rfl (Nat.le_of_ble_eq_true rfl) (pG_ok gu491) ⟨(Nat.le_of_ble_eq_true rfl), (Nat.le_of_ble_eq_true rfl)⟩ rfl nofun (e_264 (d + 122) _ gh492 ⟨rfl, rfl⟩) ?_
                                                                                              change Wp _ _ _ _ [.long x493] _ _
                                                                                              refine wp_lstore [some (.ref a0), some (.ref a1), some (.ref a2), some (.ref a3), some (.int a4), some (.int x488), some (.long x493), none] xi_270 dL_law_1316 rfl ?_
                                                                                              refine wp_aload_n xi_270 dL_law_1318 rfl ?_
                                                                                              obtain ⟨u494, gu494, H⟩ := Option.bind_eq_some_iff.mp H
                                                                                              obtain ⟨⟨x496, h495⟩, gh495, H⟩ := Option.bind_eq_some_iff.mp H
                                                                                              dsimp only at H
                                                                                              refine wq_callV (a := a2) (as := []) (r := []) (v1 := (some (.int x496))) xi_270 xi_160 dL_law_1319 xm_13_55 rfl (Nat.le_of_ble_eq_true rfl) (pG_ok gu494) ⟨(Nat.le_of_ble_eq_true rfl), (Nat.le_of_ble_eq_true rfl)⟩ rfl nofun (e_160 (d + 123) _ gh495 ⟨rfl, rfl⟩) ?_
                                                                                              change Wp _ _ _ _ [.int x496] _ _
                                                                                              refine wp_iload xi_270 dL_law_1322 rfl ?_
                                                                                              refine wp_icmp_eq 1329 xi_270 dL_law_1324 rfl (fun c497 => ?_) (fun c497 => ?_)
                                                                                              · rw [if_pos c497] at H
                                                                                                refine wp_iload xi_270 dL_law_1329 rfl ?_
                                                                                                refine wp_if_ne 1345 xi_270 dL_law_1331 rfl (fun c498 => ?_) (fun c498 => ?_)
                                                                                                · rw [if_neg c498] at H
                                                                                                  refine wp_goto 1348 xi_270 dL_law_1345 rfl ?_
                                                                                                  refine wp_iinc (a4 + 5) [some (.ref a0), some (.ref a1), some (.ref a2), some (.ref a3), some (.int (a4 + 5)), some (.int x488), some (.long x493), none] xi_270 dL_law_1348 rfl rfl rfl ?_
                                                                                                  refine wp_goto 23 xi_270 dL_law_1351 rfl ?_
                                                                                                  exact Wp.more (by simp [xMore, Value.category]) (ih a0 a1 a2 a3 (a4 + 5) h495 _ H KE KR)
                                                                                                · rw [if_pos c498] at H
                                                                                                  refine wp_aload_n xi_270 dL_law_1334 rfl ?_
                                                                                                  refine wp_iconst 0 xi_270 dL_law_1335 rfl ?_
                                                                                                  obtain ⟨x499, gx499, H⟩ := Option.bind_eq_some_iff.mp H
                                                                                                  refine wq_laload xi_270 dL_law_1336 gx499 ?_
                                                                                                  refine wp_lload xi_270 dL_law_1337 rfl ?_
                                                                                                  refine wp_lcmp xi_270 dL_law_1339 ?_
                                                                                                  refine wp_if_eq 1345 xi_270 dL_law_1340 rfl (fun c500 => ?_) (fun c500 => ?_)
                                                                                                  · rw [if_pos c500] at H
                                                                                                    refine wp_goto 1348 xi_270 dL_law_1345 rfl ?_
                                                                                                    refine wp_iinc (a4 + 5) [some (.ref a0), some (.ref a1), some (.ref a2), some (.ref a3), some (.int (a4 + 5)), some (.int x488), some (.long x493), none] xi_270 dL_law_1348 rfl rfl rfl ?_
                                                                                                    refine wp_goto 23 xi_270 dL_law_1351 rfl ?_
                                                                                                    exact Wp.more (by simp [xMore, Value.category]) (ih a0 a1 a2 a3 (a4 + 5) h495 _ H KE KR)
                                                                                                  · rw [if_neg c500] at H
                                                                                                    refine wp_iconst 0 xi_270 dL_law_1343 rfl ?_
                                                                                                    obtain ⟨q501, gq501, H⟩ := Option.bind_eq_some_iff.mp H
                                                                                                    obtain ⟨gz, rfl⟩ := pZ_ok gq501
                                                                                                    obtain rfl := Option.some.inj H
                                                                                                    exact wp_zret xi_270 dL_law_1344 gz (KR _ _ rfl)
                                                                                              · rw [if_neg c497] at H
                                                                                                refine wp_iconst 0 xi_270 dL_law_1327 rfl ?_
                                                                                                obtain ⟨q502, gq502, H⟩ := Option.bind_eq_some_iff.mp H
                                                                                                obtain ⟨gz, rfl⟩ := pZ_ok gq502
                                                                                                obtain rfl := Option.some.inj H
                                                                                                exact wp_zret xi_270 dL_law_1328 gz (KR _ _ rfl)
                                                                                            · rw [if_neg c47] at H
                                                                                              have ec4 := lv_neT c4 (a := 0) (by decide)
                                                                                              have ec5 := lv_neT c5 (a := 1) (by decide)
                                                                                              have ec6 := lv_neT c6 (a := 2) (by decide)
                                                                                              have ec7 := lv_neT c7 (a := 3) (by decide)
                                                                                              have ec8 := lv_neT c8 (a := 4) (by decide)
                                                                                              have ec9 := lv_neT c9 (a := 5) (by decide)
                                                                                              have ec10 := lv_neT c10 (a := 6) (by decide)
                                                                                              have ec11 := lv_neT c11 (a := 7) (by decide)
                                                                                              have ec12 := lv_neT c12 (a := 8) (by decide)
                                                                                              have ec13 := lv_neT c13 (a := 9) (by decide)
                                                                                              have ec14 := lv_neT c14 (a := 10) (by decide)
                                                                                              have ec15 := lv_neT c15 (a := 11) (by decide)
                                                                                              have ec16 := lv_neT c16 (a := 12) (by decide)
                                                                                              have ec17 := lv_neT c17 (a := 13) (by decide)
                                                                                              have ec18 := lv_neT c18 (a := 14) (by decide)
                                                                                              have ec19 := lv_neT c19 (a := 15) (by decide)
                                                                                              have ec20 := lv_neT c20 (a := 16) (by decide)
                                                                                              have ec21 := lv_neT c21 (a := 17) (by decide)
                                                                                              have ec22 := lv_neT c22 (a := 18) (by decide)
                                                                                              have ec23 := lv_neT c23 (a := 19) (by decide)
                                                                                              have ec24 := lv_neT c24 (a := 20) (by decide)
                                                                                              have ec25 := lv_neT c25 (a := 21) (by decide)
                                                                                              have ec26 := lv_neT c26 (a := 22) (by decide)
                                                                                              have ec27 := lv_neT c27 (a := 23) (by decide)
                                                                                              have ec28 := lv_neT c28 (a := 24) (by decide)
                                                                                              have ec29 := lv_neT c29 (a := 25) (by decide)
                                                                                              have ec30 := lv_neT c30 (a := 26) (by decide)
                                                                                              have ec31 := lv_neT c31 (a := 27) (by decide)
                                                                                              have ec32 := lv_neT c32 (a := 28) (by decide)
                                                                                              have ec33 := lv_neT c33 (a := 29) (by decide)
                                                                                              have ec34 := lv_neT c34 (a := 30) (by decide)
                                                                                              have ec35 := lv_neT c35 (a := 31) (by decide)
                                                                                              have ec36 := lv_neT c36 (a := 32) (by decide)
                                                                                              have ec37 := lv_neT c37 (a := 33) (by decide)
                                                                                              have ec38 := lv_neT c38 (a := 34) (by decide)
                                                                                              have ec39 := lv_neT c39 (a := 35) (by decide)
                                                                                              have ec40 := lv_neT c40 (a := 36) (by decide)
                                                                                              have ec41 := lv_neT c41 (a := 37) (by decide)
                                                                                              have ec42 := lv_neT c42 (a := 38) (by decide)
                                                                                              have ec43 := lv_neT c43 (a := 39) (by decide)
                                                                                              have ec44 := lv_neT c44 (a := 40) (by decide)
                                                                                              have ec45 := lv_neT c45 (a := 41) (by decide)
                                                                                              have ec46 := lv_neT c46 (a := 42) (by decide)
                                                                                              have ec47 := lv_neT c47 (a := 43) (by decide)
                                                                                              refine Wp.pure (p2 := 1348) (ls2 := [some (.ref a0), some (.ref a1), some (.ref a2), some (.ref a3), some (.int a4), none, none, none]) (st2 := []) (h2 := h) xi_270 dL_law_39 rfl rfl rfl (by simp only [xPure, xJ]; rw [if_pos (by omega)]; rfl) ?_
                                                                                              refine wp_iinc (a4 + 5) [some (.ref a0), some (.ref a1), some (.ref a2), some (.ref a3), some (.int (a4 + 5)), none, none, none] xi_270 dL_law_1348 rfl rfl rfl ?_
                                                                                              refine wp_goto 23 xi_270 dL_law_1351 rfl ?_
                                                                                              exact Wp.more (by simp [xMore, Value.category]) (ih a0 a1 a2 a3 (a4 + 5) h _ H KE KR)
def f_270  (p0 : Nat) (h : xH) : Option (Int32 × xH) :=
  (pNw h 11).bind fun (x1, h2) =>
  (pG (pIs h2 x1 11)).bind fun _ =>
  (f_104 x1 h2).bind fun h4 =>
  (pNw h4 12).bind fun (x5, h6) =>
  (pG (pIs h6 x5 12)).bind fun _ =>
  (f_166 x5 h6).bind fun h8 =>
  (pNl h8 1).bind fun (x9, h10) =>
  (f_270_23 100000 p0 x1 x5 x9 0 h10).bind fun r14 => match r14 with
  | .inl h11 =>
  pZ 1 h11
  | .inr (x15, h16) => some (x15, h16)
set_option maxHeartbeats 4000000 in
theorem e_270 (d : Nat) (Q : Option Value → xH → Prop)  {h : xH} {p0 : Nat} {x : Int32} {h1 : xH} (H : f_270  p0 h = some (x, h1)) (hq : Q (some (.int x)) h1) : Wp (d + 124) 270 0 [some (.ref p0), none, none, none, none, none, none, none] [] h Q := by
  unfold f_270 at H
  obtain ⟨⟨x1, h2⟩, gx1, H⟩ := Option.bind_eq_some_iff.mp H
  dsimp only at H
  refine wq_new xi_270 dL_law_0 xn_13_8 (by decide) gx1 ?_
  refine wp_dup xi_270 dL_law_3 rfl ?_
  obtain ⟨u3, gu3, H⟩ := Option.bind_eq_some_iff.mp H
  obtain ⟨h4, gh4, H⟩ := Option.bind_eq_some_iff.mp H
  refine wq_callI (a := x1) (as := []) (r := [.ref x1]) (v1 := none) xi_270 xi_104 dL_law_4 xm_13_22 (Or.inl rfl) rfl (Nat.le_of_ble_eq_true rfl) (pG_ok gu3) ⟨(Nat.le_of_ble_eq_true rfl), (Nat.le_of_ble_eq_true rfl)⟩ rfl nofun (e_104 (d + 119) _ gh4 ⟨rfl, rfl⟩) ?_
  change Wp _ _ _ _ [.ref x1] _ _
  refine wp_astore_n [some (.ref p0), some (.ref x1), none, none, none, none, none, none] xi_270 dL_law_7 rfl ?_
  obtain ⟨⟨x5, h6⟩, gx5, H⟩ := Option.bind_eq_some_iff.mp H
  dsimp only at H
  refine wq_new xi_270 dL_law_8 xn_13_23 (by decide) gx5 ?_
  refine wp_dup xi_270 dL_law_11 rfl ?_
  obtain ⟨u7, gu7, H⟩ := Option.bind_eq_some_iff.mp H
  obtain ⟨h8, gh8, H⟩ := Option.bind_eq_some_iff.mp H
  refine wq_callI (a := x5) (as := []) (r := [.ref x5]) (v1 := none) xi_270 xi_166 dL_law_12 xm_13_25 (Or.inl rfl) rfl (Nat.le_of_ble_eq_true rfl) (pG_ok gu7) ⟨(Nat.le_of_ble_eq_true rfl), (Nat.le_of_ble_eq_true rfl)⟩ rfl nofun (e_166 (d + 122) _ gh8 ⟨rfl, rfl⟩) ?_
  change Wp _ _ _ _ [.ref x5] _ _
  refine wp_astore_n [some (.ref p0), some (.ref x1), some (.ref x5), none, none, none, none, none] xi_270 dL_law_15 rfl ?_
  refine wp_iconst 1 xi_270 dL_law_16 rfl ?_
  obtain ⟨⟨x9, h10⟩, gx9, H⟩ := Option.bind_eq_some_iff.mp H
  dsimp only at H
  refine wq_newl xi_270 dL_law_17 gx9 ?_
  refine wp_astore_n [some (.ref p0), some (.ref x1), some (.ref x5), some (.ref x9), none, none, none, none] xi_270 dL_law_19 rfl ?_
  refine wp_iconst 0 xi_270 dL_law_20 rfl ?_
  refine wp_istore [some (.ref p0), some (.ref x1), some (.ref x5), some (.ref x9), some (.int 0), none, none, none] xi_270 dL_law_21 rfl ?_
  obtain ⟨r14, G12, H⟩ := Option.bind_eq_some_iff.mp H
  refine Wp.more (by simp [xMore, Value.category]) (ef_270_23 d Q  100000 p0 x1 x5 x9 0 h10 _ G12 (fun z0 e9 => ?_) (fun x1 h1 e9 => ?_))
  · subst e9
    dsimp only at H
    obtain ⟨h11, rfl⟩ : ∃ z, z = z0 := ⟨_, rfl⟩
    refine wp_iconst 1 xi_270 dL_law_1354 rfl ?_
    obtain ⟨gz, hz⟩ := pZ_ok H
    obtain ⟨rfl, rfl⟩ := Prod.mk.inj hz
    exact wp_zret xi_270 dL_law_1355 gz hq
  · subst e9
    dsimp only at H
    obtain ⟨rfl, rfl⟩ := oi2 H
    exact hq
