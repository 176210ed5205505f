def fL_law_L18 (N : Nat) (L : Nat) (xs : Nat → Int32) : Nat → Mm → Int32 → Option Int32
  | 0, _, _ => none
  | n0 + 1, w, x3 => if ((Int32.ofNat L) - (6 : Int32)) < x3 then (
some (1 : Int32))
else (
Option.bind (rdS L xs x3) fun a2 =>
if (a2 &&& (63 : Int32)) = (0 : Int32) then (
Option.bind (rdS L xs (x3 + (1 : Int32))) fun a4 =>
ob2 (some (fX11_valley w a4)) fun a5 m6 =>
Option.bind (rdS L xs (x3 + (1 : Int32))) fun a7 =>
ob2 (fX12_valley N m6 a7) fun a8 m9 =>
if a5 = a8 then (
(fL_law_L18 N L xs n0) m9 (x3 + 6))
else (
some (0 : Int32)))
else if (a2 &&& (63 : Int32)) = (1 : Int32) then (
Option.bind (rdS L xs (x3 + (1 : Int32))) fun a12 =>
ob2 (some (fX11_fog w a12)) fun a13 m14 =>
Option.bind (rdS L xs (x3 + (1 : Int32))) fun a15 =>
ob2 (some (fX12_fog m14 a15)) fun a16 m17 =>
if a13 = a16 then (
(fL_law_L18 N L xs n0) m17 (x3 + 6))
else (
some (0 : Int32)))
else if (a2 &&& (63 : Int32)) = (2 : Int32) then (
Option.bind (rdS L xs (x3 + (1 : Int32))) fun a20 =>
Option.bind (rdS L xs (x3 + (2 : Int32))) fun a21 =>
Option.bind (rdS L xs (x3 + (3 : Int32))) fun a22 =>
Option.bind (rdS L xs (x3 + (4 : Int32))) fun a23 =>
Option.bind (rdS L xs (x3 + (5 : Int32))) fun a24 =>
ob2 (fX11_candle w a20 a21 a22 a23 a24) fun a25 m26 =>
Option.bind (rdS L xs (x3 + (1 : Int32))) fun a27 =>
Option.bind (rdS L xs (x3 + (2 : Int32))) fun a28 =>
Option.bind (rdS L xs (x3 + (3 : Int32))) fun a29 =>
Option.bind (rdS L xs (x3 + (4 : Int32))) fun a30 =>
Option.bind (rdS L xs (x3 + (5 : Int32))) fun a31 =>
ob2 (fX12_candle m26 a27 a28 a29 a30 a31) fun a32 m33 =>
if a25 = a32 then (
(fL_law_L18 N L xs n0) m33 (x3 + 6))
else (
some (0 : Int32)))
else if (a2 &&& (63 : Int32)) = (3 : Int32) then (
Option.bind (rdS L xs (x3 + (1 : Int32))) fun a36 =>
Option.bind (rdS L xs (x3 + (2 : Int32))) fun a37 =>
ob2 (fX11_move w a36 a37) fun a38 m39 =>
Option.bind (rdS L xs (x3 + (1 : Int32))) fun a40 =>
Option.bind (rdS L xs (x3 + (2 : Int32))) fun a41 =>
ob2 (fX12_move N m39 a40 a41) fun a42 m43 =>
if a38 = a42 then (
(fL_law_L18 N L xs n0) m43 (x3 + 6))
else (
some (0 : Int32)))
else if (a2 &&& (63 : Int32)) = (4 : Int32) then (
Option.bind (rdS L xs (x3 + (1 : Int32))) fun a46 =>
Option.bind (rdS L xs (x3 + (2 : Int32))) fun a47 =>
ob2 (fX11_light w a46 a47) fun a48 m49 =>
Option.bind (rdS L xs (x3 + (1 : Int32))) fun a50 =>
Option.bind (rdS L xs (x3 + (2 : Int32))) fun a51 =>
ob2 (fX12_light N m49 a50 a51) fun a52 m53 =>
if a48 = a52 then (
(fL_law_L18 N L xs n0) m53 (x3 + 6))
else (
some (0 : Int32)))
else if (a2 &&& (63 : Int32)) = (5 : Int32) then (
ob2 (fX11_undo w) fun a56 m57 =>
ob2 (fX12_undo N m57) fun a58 m59 =>
if a56 = a58 then (
(fL_law_L18 N L xs n0) m59 (x3 + 6))
else (
some (0 : Int32)))
else if (a2 &&& (63 : Int32)) = (6 : Int32) then (
Option.bind (rdS L xs (x3 + (1 : Int32))) fun a62 =>
ob2 (fX11_type w a62) fun a63 m64 =>
Option.bind (rdS L xs (x3 + (1 : Int32))) fun a65 =>
ob2 (fX12_type m64 a65) fun a66 m67 =>
if a63 = a66 then (
(fL_law_L18 N L xs n0) m67 (x3 + 6))
else (
some (0 : Int32)))
else if (a2 &&& (63 : Int32)) = (7 : Int32) then (
ob2 (some (fX11_clear w)) fun a70 m71 =>
ob2 (some (fX12_clear m71)) fun a72 m73 =>
if a70 = a72 then (
(fL_law_L18 N L xs n0) m73 (x3 + 6))
else (
some (0 : Int32)))
else if (a2 &&& (63 : Int32)) = (8 : Int32) then (
ob2 (fX11_read N w) fun a76 m77 =>
ob2 (fX12_read N m77) fun a78 m79 =>
if a76 = a78 then (
(fL_law_L18 N L xs n0) m79 (x3 + 6))
else (
some (0 : Int32)))
else if (a2 &&& (63 : Int32)) = (9 : Int32) then (
Option.bind (rdS L xs (x3 + (1 : Int32))) fun a82 =>
Option.bind (rdS L xs (x3 + (2 : Int32))) fun a83 =>
ob2 (fX11_of w a82 a83) fun a84 m85 =>
Option.bind (rdS L xs (x3 + (1 : Int32))) fun a86 =>
Option.bind (rdS L xs (x3 + (2 : Int32))) fun a87 =>
ob2 (fX12_of m85 a86 a87) fun a88 m89 =>
if a84 = a88 then (
(fL_law_L18 N L xs n0) m89 (x3 + 6))
else (
some (0 : Int32)))
else if (a2 &&& (63 : Int32)) = (10 : Int32) then (
Option.bind (rdS L xs (x3 + (1 : Int32))) fun a92 =>
Option.bind (rdS L xs (x3 + (2 : Int32))) fun a93 =>
Option.bind (rdS L xs (x3 + (3 : Int32))) fun a94 =>
ob2 (fX11_shines w a92 a93 a94) fun a95 m96 =>
Option.bind (rdS L xs (x3 + (1 : Int32))) fun a97 =>
Option.bind (rdS L xs (x3 + (2 : Int32))) fun a98 =>
Option.bind (rdS L xs (x3 + (3 : Int32))) fun a99 =>
ob2 (fX12_shines N m96 a97 a98 a99) fun a100 m101 =>
if a95 = a100 then (
(fL_law_L18 N L xs n0) m101 (x3 + 6))
else (
some (0 : Int32)))
else if (a2 &&& (63 : Int32)) = (11 : Int32) then (
Option.bind (rdS L xs (x3 + (1 : Int32))) fun a104 =>
Option.bind (rdS L xs (x3 + (2 : Int32))) fun a105 =>
Option.bind (rdS L xs (x3 + (3 : Int32))) fun a106 =>
ob2 (fX11_cell N w a104 a105 a106) fun a107 m108 =>
Option.bind (rdS L xs (x3 + (1 : Int32))) fun a109 =>
Option.bind (rdS L xs (x3 + (2 : Int32))) fun a110 =>
Option.bind (rdS L xs (x3 + (3 : Int32))) fun a111 =>
ob2 (fX12_cell N m108 a109 a110 a111) fun a112 m113 =>
if a107 = a112 then (
(fL_law_L18 N L xs n0) m113 (x3 + 6))
else (
some (0 : Int32)))
else if (a2 &&& (63 : Int32)) = (12 : Int32) then (
Option.bind (rdS L xs (x3 + (1 : Int32))) fun a116 =>
Option.bind (rdS L xs (x3 + (2 : Int32))) fun a117 =>
Option.bind (rdS L xs (x3 + (3 : Int32))) fun a118 =>
ob2 (fX11_acres N w a116 a117 a118) fun a119 m120 =>
Option.bind (rdS L xs (x3 + (1 : Int32))) fun a121 =>
Option.bind (rdS L xs (x3 + (2 : Int32))) fun a122 =>
Option.bind (rdS L xs (x3 + (3 : Int32))) fun a123 =>
ob2 (fX12_acres N m120 a121 a122 a123) fun a124 m125 =>
if a119 = a124 then (
(fL_law_L18 N L xs n0) m125 (x3 + 6))
else (
some (0 : Int32)))
else if (a2 &&& (63 : Int32)) = (13 : Int32) then (
Option.bind (rdS L xs (x3 + (1 : Int32))) fun a128 =>
Option.bind (rdS L xs (x3 + (2 : Int32))) fun a129 =>
ob2 (fX11_hedges N w a128 a129) fun a130 m131 =>
Option.bind (rdS L xs (x3 + (1 : Int32))) fun a132 =>
Option.bind (rdS L xs (x3 + (2 : Int32))) fun a133 =>
ob2 (fX12_hedges N m131 a132 a133) fun a134 m135 =>
if a130 = a134 then (
(fL_law_L18 N L xs n0) m135 (x3 + 6))
else (
some (0 : Int32)))
else if (a2 &&& (63 : Int32)) = (14 : Int32) then (
Option.bind (rdS L xs (x3 + (1 : Int32))) fun a138 =>
Option.bind (rdS L xs (x3 + (2 : Int32))) fun a139 =>
Option.bind (rdS L xs (x3 + (3 : Int32))) fun a140 =>
ob2 (fX11_dark N w a138 a139 a140) fun a141 m142 =>
Option.bind (rdS L xs (x3 + (1 : Int32))) fun a143 =>
Option.bind (rdS L xs (x3 + (2 : Int32))) fun a144 =>
Option.bind (rdS L xs (x3 + (3 : Int32))) fun a145 =>
ob2 (fX12_dark N m142 a143 a144 a145) fun a146 m147 =>
if a141 = a146 then (
(fL_law_L18 N L xs n0) m147 (x3 + 6))
else (
some (0 : Int32)))
else if (a2 &&& (63 : Int32)) = (15 : Int32) then (
Option.bind (rdS L xs (x3 + (1 : Int32))) fun a150 =>
ob2 (fX11_want w a150) fun a151 m152 =>
Option.bind (rdS L xs (x3 + (1 : Int32))) fun a153 =>
ob2 (fX12_want m152 a153) fun a154 m155 =>
if a151 = a154 then (
(fL_law_L18 N L xs n0) m155 (x3 + 6))
else (
some (0 : Int32)))
else if (a2 &&& (63 : Int32)) = (16 : Int32) then (
ob2 (some (fX11_forget w)) fun a158 m159 =>
ob2 (some (fX12_forget m159)) fun a160 m161 =>
if a158 = a160 then (
(fL_law_L18 N L xs n0) m161 (x3 + 6))
else (
some (0 : Int32)))
else if (a2 &&& (63 : Int32)) = (17 : Int32) then (
Option.bind (rdS L xs (x3 + (1 : Int32))) fun a164 =>
Option.bind (rdS L xs (x3 + (2 : Int32))) fun a165 =>
ob2 (fX11_lighting N w a164 a165) fun a166 m167 =>
Option.bind (rdS L xs (x3 + (1 : Int32))) fun a168 =>
Option.bind (rdS L xs (x3 + (2 : Int32))) fun a169 =>
ob2 (fX12_lighting N m167 a168 a169) fun a170 m171 =>
if a166 = a170 then (
(fL_law_L18 N L xs n0) m171 (x3 + 6))
else (
some (0 : Int32)))
else if (a2 &&& (63 : Int32)) = (18 : Int32) then (
Option.bind (rdS L xs (x3 + (1 : Int32))) fun a174 =>
Option.bind (rdS L xs (x3 + (2 : Int32))) fun a175 =>
ob2 (fX11_tallow N w a174 a175) fun a176 m177 =>
Option.bind (rdS L xs (x3 + (1 : Int32))) fun a178 =>
Option.bind (rdS L xs (x3 + (2 : Int32))) fun a179 =>
ob2 (fX12_tallow N m177 a178 a179) fun a180 m181 =>
if a176 = a180 then (
(fL_law_L18 N L xs n0) m181 (x3 + 6))
else (
some (0 : Int32)))
else if (a2 &&& (63 : Int32)) = (19 : Int32) then (
Option.bind (rdS L xs (x3 + (1 : Int32))) fun a184 =>
Option.bind (rdS L xs (x3 + (2 : Int32))) fun a185 =>
ob2 (fX11_put N w a184 a185) fun a186 m187 =>
Option.bind (rdS L xs (x3 + (1 : Int32))) fun a188 =>
Option.bind (rdS L xs (x3 + (2 : Int32))) fun a189 =>
ob2 (fX12_put N m187 a188 a189) fun a190 m191 =>
if a186 = a190 then (
(fL_law_L18 N L xs n0) m191 (x3 + 6))
else (
some (0 : Int32)))
else if (a2 &&& (63 : Int32)) = (20 : Int32) then (
Option.bind (rdS L xs (x3 + (1 : Int32))) fun a194 =>
Option.bind (rdS L xs (x3 + (2 : Int32))) fun a195 =>
Option.bind (rdS L xs (x3 + (3 : Int32))) fun a196 =>
Option.bind (rdS L xs (x3 + (4 : Int32))) fun a197 =>
Option.bind (rdS L xs (x3 + (5 : Int32))) fun a198 =>
ob2 (fX11_thief N w a194 a195 a196 a197 a198) fun a199 m200 =>
Option.bind (rdS L xs (x3 + (1 : Int32))) fun a201 =>
Option.bind (rdS L xs (x3 + (2 : Int32))) fun a202 =>
Option.bind (rdS L xs (x3 + (3 : Int32))) fun a203 =>
Option.bind (rdS L xs (x3 + (4 : Int32))) fun a204 =>
Option.bind (rdS L xs (x3 + (5 : Int32))) fun a205 =>
ob2 (fX12_thief N m200 a201 a202 a203 a204 a205) fun a206 m207 =>
if a199 = a206 then (
(fL_law_L18 N L xs n0) m207 (x3 + 6))
else (
some (0 : Int32)))
else if (a2 &&& (63 : Int32)) = (21 : Int32) then (
Option.bind (rdS L xs (x3 + (1 : Int32))) fun a210 =>
Option.bind (rdS L xs (x3 + (2 : Int32))) fun a211 =>
Option.bind (rdS L xs (x3 + (3 : Int32))) fun a212 =>
ob2 (fX11_wedding N w a210 a211 a212) fun a213 m214 =>
Option.bind (rdS L xs (x3 + (1 : Int32))) fun a215 =>
Option.bind (rdS L xs (x3 + (2 : Int32))) fun a216 =>
Option.bind (rdS L xs (x3 + (3 : Int32))) fun a217 =>
ob2 (fX12_wedding N m214 a215 a216 a217) fun a218 m219 =>
if a213 = a218 then (
(fL_law_L18 N L xs n0) m219 (x3 + 6))
else (
some (0 : Int32)))
else if (a2 &&& (63 : Int32)) = (22 : Int32) then (
Option.bind (rdS L xs (x3 + (1 : Int32))) fun a222 =>
Option.bind (rdS L xs (x3 + (2 : Int32))) fun a223 =>
Option.bind (rdS L xs (x3 + (3 : Int32))) fun a224 =>
Option.bind (rdS L xs (x3 + (4 : Int32))) fun a225 =>
ob2 (fX11_spite N w a222 a223 a224 a225) fun a226 m227 =>
Option.bind (rdS L xs (x3 + (1 : Int32))) fun a228 =>
Option.bind (rdS L xs (x3 + (2 : Int32))) fun a229 =>
Option.bind (rdS L xs (x3 + (3 : Int32))) fun a230 =>
Option.bind (rdS L xs (x3 + (4 : Int32))) fun a231 =>
ob2 (fX12_spite N m227 a228 a229 a230 a231) fun a232 m233 =>
if a226 = a232 then (
(fL_law_L18 N L xs n0) m233 (x3 + 6))
else (
some (0 : Int32)))
else if (a2 &&& (63 : Int32)) = (23 : Int32) then (
Option.bind (rdS L xs (x3 + (1 : Int32))) fun a236 =>
Option.bind (rdS L xs (x3 + (2 : Int32))) fun a237 =>
Option.bind (rdS L xs (x3 + (3 : Int32))) fun a238 =>
ob2 (fX11_reading w a236 a237 a238) fun a239 m240 =>
Option.bind (rdS L xs (x3 + (1 : Int32))) fun a241 =>
Option.bind (rdS L xs (x3 + (2 : Int32))) fun a242 =>
Option.bind (rdS L xs (x3 + (3 : Int32))) fun a243 =>
ob2 (fX12_reading m240 a241 a242 a243) fun a244 m245 =>
if a239 = a244 then (
(fL_law_L18 N L xs n0) m245 (x3 + 6))
else (
some (0 : Int32)))
else if (a2 &&& (63 : Int32)) = (24 : Int32) then (
ob2 (some (fX11_burnt w)) fun a248 m249 =>
ob2 (some (fX12_burnt m249)) fun a250 m251 =>
if a248 = a250 then (
(fL_law_L18 N L xs n0) m251 (x3 + 6))
else (
some (0 : Int32)))
else if (a2 &&& (63 : Int32)) = (25 : Int32) then (
Option.bind (rdS L xs (x3 + (1 : Int32))) fun a254 =>
ob2 (fX11_burn N w a254) fun a255 m256 =>
Option.bind (rdS L xs (x3 + (1 : Int32))) fun a257 =>
ob2 (fX12_burn N m256 a257) fun a258 m259 =>
if a255 = a258 then (
(fL_law_L18 N L xs n0) m259 (x3 + 6))
else (
some (0 : Int32)))
else if (a2 &&& (63 : Int32)) = (26 : Int32) then (
Option.bind (rdS L xs (x3 + (1 : Int32))) fun a262 =>
ob2 (fX11_measure N w a262) fun a263 m264 =>
Option.bind (rdS L xs (x3 + (1 : Int32))) fun a265 =>
ob2 (fX12_measure N m264 a265) fun a266 m267 =>
if a263 = a266 then (
(fL_law_L18 N L xs n0) m267 (x3 + 6))
else (
some (0 : Int32)))
else if (a2 &&& (63 : Int32)) = (27 : Int32) then (
Option.bind (rdS L xs (x3 + (1 : Int32))) fun a270 =>
Option.bind (rdS L xs (x3 + (2 : Int32))) fun a271 =>
Option.bind (rdS L xs (x3 + (3 : Int32))) fun a272 =>
Option.bind (rdS L xs (x3 + (4 : Int32))) fun a273 =>
ob2 (fX11_draught N w a270 a271 a272 a273) fun a274 m275 =>
Option.bind (rdS L xs (x3 + (1 : Int32))) fun a276 =>
Option.bind (rdS L xs (x3 + (2 : Int32))) fun a277 =>
Option.bind (rdS L xs (x3 + (3 : Int32))) fun a278 =>
Option.bind (rdS L xs (x3 + (4 : Int32))) fun a279 =>
ob2 (fX12_draught N m275 a276 a277 a278 a279) fun a280 m281 =>
if a274 = a280 then (
(fL_law_L18 N L xs n0) m281 (x3 + 6))
else (
some (0 : Int32)))
else if (a2 &&& (63 : Int32)) = (28 : Int32) then (
Option.bind (rdS L xs (x3 + (1 : Int32))) fun a284 =>
Option.bind (rdS L xs (x3 + (2 : Int32))) fun a285 =>
Option.bind (rdS L xs (x3 + (3 : Int32))) fun a286 =>
Option.bind (rdS L xs (x3 + (4 : Int32))) fun a287 =>
ob2 (fX11_nights N w a284 a285 a286 a287) fun a288 m289 =>
Option.bind (rdS L xs (x3 + (1 : Int32))) fun a290 =>
Option.bind (rdS L xs (x3 + (2 : Int32))) fun a291 =>
Option.bind (rdS L xs (x3 + (3 : Int32))) fun a292 =>
Option.bind (rdS L xs (x3 + (4 : Int32))) fun a293 =>
ob2 (fX12_nights N m289 a290 a291 a292 a293) fun a294 m295 =>
if a288 = a294 then (
(fL_law_L18 N L xs n0) m295 (x3 + 6))
else (
some (0 : Int32)))
else if (a2 &&& (63 : Int32)) = (29 : Int32) then (
Option.bind (rdS L xs (x3 + (1 : Int32))) fun a298 =>
ob2 (some (fX11_part w a298)) fun a299 m300 =>
Option.bind (rdS L xs (x3 + (1 : Int32))) fun a301 =>
ob2 (some (fX12_part m300 a301)) fun a302 m303 =>
if (lg_cmp a299 a302) = (0 : Int32) then (
(fL_law_L18 N L xs n0) m303 (x3 + 6))
else (
some (0 : Int32)))
else if (a2 &&& (63 : Int32)) = (30 : Int32) then (
Option.bind (rdS L xs (x3 + (1 : Int32))) fun a306 =>
ob2 (fX11_image w a306) fun a307 m308 =>
Option.bind (rdS L xs (x3 + (1 : Int32))) fun a309 =>
ob2 (fX12_image N m308 a309) fun a310 m311 =>
if a307 = a310 then (
(fL_law_L18 N L xs n0) m311 (x3 + 6))
else (
some (0 : Int32)))
else if (a2 &&& (63 : Int32)) = (31 : Int32) then (
Option.bind (rdS L xs (x3 + (1 : Int32))) fun a314 =>
ob2 (fX11_from w a314) fun a315 m316 =>
Option.bind (rdS L xs (x3 + (1 : Int32))) fun a317 =>
ob2 (fX12_from N m316 a317) fun a318 m319 =>
if a315 = a318 then (
(fL_law_L18 N L xs n0) m319 (x3 + 6))
else (
some (0 : Int32)))
else if (a2 &&& (63 : Int32)) = (32 : Int32) then (
Option.bind (rdS L xs (x3 + (1 : Int32))) fun a322 =>
ob2 (some (fX11_status w a322)) fun a323 m324 =>
Option.bind (rdS L xs (x3 + (1 : Int32))) fun a325 =>
ob2 (fX12_status m324 a325) fun a326 m327 =>
if a323 = a326 then (
(fL_law_L18 N L xs n0) m327 (x3 + 6))
else (
some (0 : Int32)))
else if (a2 &&& (63 : Int32)) = (33 : Int32) then (
Option.bind (rdS L xs (x3 + (1 : Int32))) fun a330 =>
ob2 (some (fX11_count w a330)) fun a331 m332 =>
Option.bind (rdS L xs (x3 + (1 : Int32))) fun a333 =>
ob2 (fX12_count m332 a333) fun a334 m335 =>
if a331 = a334 then (
(fL_law_L18 N L xs n0) m335 (x3 + 6))
else (
some (0 : Int32)))
else if (a2 &&& (63 : Int32)) = (34 : Int32) then (
Option.bind (fX11_digest N w) fun a338 =>
Option.bind (fX12_digest N w) fun a339 =>
if (lg_cmp a338 a339) = (0 : Int32) then (
(fL_law_L18 N L xs n0) w (x3 + 6))
else (
some (0 : Int32)))
else (
(fL_law_L18 N L xs n0) w (x3 + 6)))
set_option maxRecDepth 100000 in
set_option maxHeartbeats 4000000 in
theorem AL_law_L18 {l : Launch} {K : Kt} {N : Nat} {b L : Nat} {xs : Nat → Int32}   : ∀ (n0 : Nat) (w : Mm) (x3 : Int32) , fL_law_L18 N L xs n0 w x3 = some 1 → AW l K cL_law RL 4 ret room_1 92 2717 (lw_E K b L xs) lw_Qf w 18 [(0, .ref b), (1, .ref (K.1 0)), (2, .ref (K.1 77)), (3, .int x3)] [] := by
  intro n0
  induction n0 with
  | zero =>
    intro w x3 h
    cases h
  | succ n0 ih =>
    intro w x3 h
    rw [fL_law_L18] at h
    refine ap_iload_n dL_law_18 3 rfl rfl ?_
    refine ap_aload_n dL_law_19 0 rfl rfl ?_
    refine ap_slen rfl dL_law_20 ?_
    refine ap_bipush (v := 6) dL_law_21 (by decide) ?_
    refine ap_isub dL_law_23 ?_
    refine ap_icmp_gt (tgt := 1301) dL_law_24 (by decide) (fun hc1 => ?_) (fun hc1 => ?_)
    · rw [if_pos hc1] at h
      refine ap_iconst (v := 1) dL_law_1301 (by decide) ?_
      exact ap_lawret dL_law_1302
    · rw [if_neg hc1] at h
      refine ap_aload_n dL_law_27 0 rfl rfl ?_
      refine ap_iload_n dL_law_28 3 rfl rfl ?_
      obtain ⟨a2, ha2, h⟩ := Option.bind_eq_some_iff.mp h
      refine ap_sld rfl ha2 dL_law_29 ?_
      refine ap_bipush (v := 63) dL_law_30 (by decide) ?_
      refine ap_iand dL_law_32 ?_
      by_cases hc3 : (a2 &&& (63 : Int32)) = (0 : Int32)
      · rw [if_pos hc3] at h
        refine ap_tabIn (off := 155) (tgt := 188) dL_law_33 (by rw [hc3]; decide) (by rw [hc3]; decide) (by rw [hc3]; rfl) (by decide) ?_
        refine ap_aload_n dL_law_188 1 rfl rfl ?_
        refine ap_aload_n dL_law_189 0 rfl rfl ?_
        refine ap_iload_n dL_law_190 3 rfl rfl ?_
        refine ap_iconst (v := 1) dL_law_191 (by decide) ?_
        refine ap_iadd dL_law_192 ?_
        obtain ⟨a4, ha4, h⟩ := Option.bind_eq_some_iff.mp h
        refine ap_sld rfl ha4 dL_law_193 ?_
        obtain ⟨a5, m6, ha5, h⟩ := ob2_iff h
        refine ap_callV (k := 0) (As := [.int a4]) (st := []) (st1 := [.int a5]) (mcX11_valley  (Option.some.inj ha5)) cv_L_13 rfl ly_0 ⟨rfl, rfl, by decide, by decide⟩ rfl (Nat.le_of_ble_eq_true rfl) ⟨by decide, by decide⟩ dL_law_194 rfl rfl ?_
        refine ap_aload_n dL_law_197 2 rfl rfl ?_
        refine ap_aload_n dL_law_198 0 rfl rfl ?_
        refine ap_iload_n dL_law_199 3 rfl rfl ?_
        refine ap_iconst (v := 1) dL_law_200 (by decide) ?_
        refine ap_iadd dL_law_201 ?_
        obtain ⟨a7, ha7, h⟩ := Option.bind_eq_some_iff.mp h
        refine ap_sld rfl ha7 dL_law_202 ?_
        obtain ⟨a8, m9, ha8, h⟩ := ob2_iff h
        refine ap_callV (k := 77) (As := [.int a7]) (st := [.int a5]) (st1 := [.int a8, .int a5]) (mcX12_valley  ha8) cv_L_17 rfl ly_77 ⟨rfl, rfl, by decide, by decide⟩ rfl (Nat.le_of_ble_eq_true rfl) ⟨by decide, by decide⟩ dL_law_203 rfl rfl ?_
        refine ap_icmp_eq (tgt := 1295) dL_law_206 (by decide) (fun hc10 => ?_) (fun hc10 => ?_)
        · rw [if_pos hc10] at h
          refine ap_iinc (v := x3 + 6) (lv' := [(3, .int (x3 + 6)), (0, .ref b), (1, .ref (K.1 0)), (2, .ref (K.1 77))]) dL_law_1295 3 rfl rfl (by decide) rfl ?_
          refine ap_goto (tgt := 18) dL_law_1298 (by decide) ?_
          refine ap_sub [1, 2, 3, 0] rfl ?_
          exact ih _ _ h
        · rw [if_neg hc10] at h
          refine ap_iconst (v := 0) dL_law_209 (by decide) ?_
          exact absurd h (by decide)
      rw [if_neg hc3] at h
      by_cases hc11 : (a2 &&& (63 : Int32)) = (1 : Int32)
      · rw [if_pos hc11] at h
        refine ap_tabIn (off := 178) (tgt := 211) dL_law_33 (by rw [hc11]; decide) (by rw [hc11]; decide) (by rw [hc11]; rfl) (by decide) ?_
        refine ap_aload_n dL_law_211 1 rfl rfl ?_
        refine ap_aload_n dL_law_212 0 rfl rfl ?_
        refine ap_iload_n dL_law_213 3 rfl rfl ?_
        refine ap_iconst (v := 1) dL_law_214 (by decide) ?_
        refine ap_iadd dL_law_215 ?_
        obtain ⟨a12, ha12, h⟩ := Option.bind_eq_some_iff.mp h
        refine ap_sld rfl ha12 dL_law_216 ?_
        obtain ⟨a13, m14, ha13, h⟩ := ob2_iff h
        refine ap_callV (k := 0) (As := [.int a12]) (st := []) (st1 := [.int a13]) (mcX11_fog  (Option.some.inj ha13)) cv_L_18 rfl ly_0 ⟨rfl, rfl, by decide, by decide⟩ rfl (Nat.le_of_ble_eq_true rfl) ⟨by decide, by decide⟩ dL_law_217 rfl rfl ?_
        refine ap_aload_n dL_law_220 2 rfl rfl ?_
        refine ap_aload_n dL_law_221 0 rfl rfl ?_
        refine ap_iload_n dL_law_222 3 rfl rfl ?_
        refine ap_iconst (v := 1) dL_law_223 (by decide) ?_
        refine ap_iadd dL_law_224 ?_
        obtain ⟨a15, ha15, h⟩ := Option.bind_eq_some_iff.mp h
        refine ap_sld rfl ha15 dL_law_225 ?_
        obtain ⟨a16, m17, ha16, h⟩ := ob2_iff h
        refine ap_callV (k := 77) (As := [.int a15]) (st := [.int a13]) (st1 := [.int a16, .int a13]) (mcX12_fog  (Option.some.inj ha16)) cv_L_21 rfl ly_77 ⟨rfl, rfl, by decide, by decide⟩ rfl (Nat.le_of_ble_eq_true rfl) ⟨by decide, by decide⟩ dL_law_226 rfl rfl ?_
        refine ap_icmp_eq (tgt := 1295) dL_law_229 (by decide) (fun hc18 => ?_) (fun hc18 => ?_)
        · rw [if_pos hc18] at h
          refine ap_iinc (v := x3 + 6) (lv' := [(3, .int (x3 + 6)), (0, .ref b), (1, .ref (K.1 0)), (2, .ref (K.1 77))]) dL_law_1295 3 rfl rfl (by decide) rfl ?_
          refine ap_goto (tgt := 18) dL_law_1298 (by decide) ?_
          refine ap_sub [1, 2, 3, 0] rfl ?_
          exact ih _ _ h
        · rw [if_neg hc18] at h
          refine ap_iconst (v := 0) dL_law_232 (by decide) ?_
          exact absurd h (by decide)
      rw [if_neg hc11] at h
      by_cases hc19 : (a2 &&& (63 : Int32)) = (2 : Int32)
      · rw [if_pos hc19] at h
        refine ap_tabIn (off := 201) (tgt := 234) dL_law_33 (by rw [hc19]; decide) (by rw [hc19]; decide) (by rw [hc19]; rfl) (by decide) ?_
        refine ap_aload_n dL_law_234 1 rfl rfl ?_
        refine ap_aload_n dL_law_235 0 rfl rfl ?_
        refine ap_iload_n dL_law_236 3 rfl rfl ?_
        refine ap_iconst (v := 1) dL_law_237 (by decide) ?_
        refine ap_iadd dL_law_238 ?_
        obtain ⟨a20, ha20, h⟩ := Option.bind_eq_some_iff.mp h
        refine ap_sld rfl ha20 dL_law_239 ?_
        refine ap_aload_n dL_law_240 0 rfl rfl ?_
        refine ap_iload_n dL_law_241 3 rfl rfl ?_
        refine ap_iconst (v := 2) dL_law_242 (by decide) ?_
        refine ap_iadd dL_law_243 ?_
        obtain ⟨a21, ha21, h⟩ := Option.bind_eq_some_iff.mp h
        refine ap_sld rfl ha21 dL_law_244 ?_
        refine ap_aload_n dL_law_245 0 rfl rfl ?_
        refine ap_iload_n dL_law_246 3 rfl rfl ?_
        refine ap_iconst (v := 3) dL_law_247 (by decide) ?_
        refine ap_iadd dL_law_248 ?_
        obtain ⟨a22, ha22, h⟩ := Option.bind_eq_some_iff.mp h
        refine ap_sld rfl ha22 dL_law_249 ?_
        refine ap_aload_n dL_law_250 0 rfl rfl ?_
        refine ap_iload_n dL_law_251 3 rfl rfl ?_
        refine ap_iconst (v := 4) dL_law_252 (by decide) ?_
        refine ap_iadd dL_law_253 ?_
        obtain ⟨a23, ha23, h⟩ := Option.bind_eq_some_iff.mp h
        refine ap_sld rfl ha23 dL_law_254 ?_
        refine ap_aload_n dL_law_255 0 rfl rfl ?_
        refine ap_iload_n dL_law_256 3 rfl rfl ?_
        refine ap_iconst (v := 5) dL_law_257 (by decide) ?_
        refine ap_iadd dL_law_258 ?_
        obtain ⟨a24, ha24, h⟩ := Option.bind_eq_some_iff.mp h
        refine ap_sld rfl ha24 dL_law_259 ?_
        obtain ⟨a25, m26, ha25, h⟩ := ob2_iff h
        refine ap_callV (k := 0) (As := [.int a20, .int a21, .int a22, .int a23, .int a24]) (st := []) (st1 := [.int a25]) (mcX11_candle  ha25) cv_L_22 rfl ly_0 ⟨rfl, rfl, by decide, by decide⟩ rfl (Nat.le_of_ble_eq_true rfl) ⟨by decide, by decide⟩ dL_law_260 rfl rfl ?_
        refine ap_aload_n dL_law_263 2 rfl rfl ?_
        refine ap_aload_n dL_law_264 0 rfl rfl ?_
        refine ap_iload_n dL_law_265 3 rfl rfl ?_
        refine ap_iconst (v := 1) dL_law_266 (by decide) ?_
        refine ap_iadd dL_law_267 ?_
        obtain ⟨a27, ha27, h⟩ := Option.bind_eq_some_iff.mp h
        refine ap_sld rfl ha27 dL_law_268 ?_
        refine ap_aload_n dL_law_269 0 rfl rfl ?_
        refine ap_iload_n dL_law_270 3 rfl rfl ?_
        refine ap_iconst (v := 2) dL_law_271 (by decide) ?_
        refine ap_iadd dL_law_272 ?_
        obtain ⟨a28, ha28, h⟩ := Option.bind_eq_some_iff.mp h
        refine ap_sld rfl ha28 dL_law_273 ?_
        refine ap_aload_n dL_law_274 0 rfl rfl ?_
        refine ap_iload_n dL_law_275 3 rfl rfl ?_
        refine ap_iconst (v := 3) dL_law_276 (by decide) ?_
        refine ap_iadd dL_law_277 ?_
        obtain ⟨a29, ha29, h⟩ := Option.bind_eq_some_iff.mp h
        refine ap_sld rfl ha29 dL_law_278 ?_
        refine ap_aload_n dL_law_279 0 rfl rfl ?_
        refine ap_iload_n dL_law_280 3 rfl rfl ?_
        refine ap_iconst (v := 4) dL_law_281 (by decide) ?_
        refine ap_iadd dL_law_282 ?_
        obtain ⟨a30, ha30, h⟩ := Option.bind_eq_some_iff.mp h
        refine ap_sld rfl ha30 dL_law_283 ?_
        refine ap_aload_n dL_law_284 0 rfl rfl ?_
        refine ap_iload_n dL_law_285 3 rfl rfl ?_
        refine ap_iconst (v := 5) dL_law_286 (by decide) ?_
        refine ap_iadd dL_law_287 ?_
        obtain ⟨a31, ha31, h⟩ := Option.bind_eq_some_iff.mp h
        refine ap_sld rfl ha31 dL_law_288 ?_
        obtain ⟨a32, m33, ha32, h⟩ := ob2_iff h
        refine ap_callV (k := 77) (As := [.int a27, .int a28, .int a29, .int a30, .int a31]) (st := [.int a25]) (st1 := [.int a32, .int a25]) (mcX12_candle  ha32) cv_L_26 rfl ly_77 ⟨rfl, rfl, by decide, by decide⟩ rfl (Nat.le_of_ble_eq_true rfl) ⟨by decide, by decide⟩ dL_law_289 rfl rfl ?_
        refine ap_icmp_eq (tgt := 1295) dL_law_292 (by decide) (fun hc34 => ?_) (fun hc34 => ?_)
        · rw [if_pos hc34] at h
          refine ap_iinc (v := x3 + 6) (lv' := [(3, .int (x3 + 6)), (0, .ref b), (1, .ref (K.1 0)), (2, .ref (K.1 77))]) dL_law_1295 3 rfl rfl (by decide) rfl ?_
          refine ap_goto (tgt := 18) dL_law_1298 (by decide) ?_
          refine ap_sub [1, 2, 3, 0] rfl ?_
          exact ih _ _ h
        · rw [if_neg hc34] at h
          refine ap_iconst (v := 0) dL_law_295 (by decide) ?_
          exact absurd h (by decide)
      rw [if_neg hc19] at h
      by_cases hc35 : (a2 &&& (63 : Int32)) = (3 : Int32)
      · rw [if_pos hc35] at h
        refine ap_tabIn (off := 264) (tgt := 297) dL_law_33 (by rw [hc35]; decide) (by rw [hc35]; decide) (by rw [hc35]; rfl) (by decide) ?_
        refine ap_aload_n dL_law_297 1 rfl rfl ?_
        refine ap_aload_n dL_law_298 0 rfl rfl ?_
        refine ap_iload_n dL_law_299 3 rfl rfl ?_
        refine ap_iconst (v := 1) dL_law_300 (by decide) ?_
        refine ap_iadd dL_law_301 ?_
        obtain ⟨a36, ha36, h⟩ := Option.bind_eq_some_iff.mp h
        refine ap_sld rfl ha36 dL_law_302 ?_
        refine ap_aload_n dL_law_303 0 rfl rfl ?_
        refine ap_iload_n dL_law_304 3 rfl rfl ?_
        refine ap_iconst (v := 2) dL_law_305 (by decide) ?_
        refine ap_iadd dL_law_306 ?_
        obtain ⟨a37, ha37, h⟩ := Option.bind_eq_some_iff.mp h
        refine ap_sld rfl ha37 dL_law_307 ?_
        obtain ⟨a38, m39, ha38, h⟩ := ob2_iff h
        refine ap_callV (k := 0) (As := [.int a36, .int a37]) (st := []) (st1 := [.int a38]) (mcX11_move  ha38) cv_L_27 rfl ly_0 ⟨rfl, rfl, by decide, by decide⟩ rfl (Nat.le_of_ble_eq_true rfl) ⟨by decide, by decide⟩ dL_law_308 rfl rfl ?_
        refine ap_aload_n dL_law_311 2 rfl rfl ?_
        refine ap_aload_n dL_law_312 0 rfl rfl ?_
        refine ap_iload_n dL_law_313 3 rfl rfl ?_
        refine ap_iconst (v := 1) dL_law_314 (by decide) ?_
        refine ap_iadd dL_law_315 ?_
        obtain ⟨a40, ha40, h⟩ := Option.bind_eq_some_iff.mp h
        refine ap_sld rfl ha40 dL_law_316 ?_
        refine ap_aload_n dL_law_317 0 rfl rfl ?_
        refine ap_iload_n dL_law_318 3 rfl rfl ?_
        refine ap_iconst (v := 2) dL_law_319 (by decide) ?_
        refine ap_iadd dL_law_320 ?_
        obtain ⟨a41, ha41, h⟩ := Option.bind_eq_some_iff.mp h
        refine ap_sld rfl ha41 dL_law_321 ?_
        obtain ⟨a42, m43, ha42, h⟩ := ob2_iff h
        refine ap_callV (k := 77) (As := [.int a40, .int a41]) (st := [.int a38]) (st1 := [.int a42, .int a38]) (mcX12_move  ha42) cv_L_31 rfl ly_77 ⟨rfl, rfl, by decide, by decide⟩ rfl (Nat.le_of_ble_eq_true rfl) ⟨by decide, by decide⟩ dL_law_322 rfl rfl ?_
        refine ap_icmp_eq (tgt := 1295) dL_law_325 (by decide) (fun hc44 => ?_) (fun hc44 => ?_)
        · rw [if_pos hc44] at h
          refine ap_iinc (v := x3 + 6) (lv' := [(3, .int (x3 + 6)), (0, .ref b), (1, .ref (K.1 0)), (2, .ref (K.1 77))]) dL_law_1295 3 rfl rfl (by decide) rfl ?_
          refine ap_goto (tgt := 18) dL_law_1298 (by decide) ?_
          refine ap_sub [1, 2, 3, 0] rfl ?_
          exact ih _ _ h
        · rw [if_neg hc44] at h
          refine ap_iconst (v := 0) dL_law_328 (by decide) ?_
          exact absurd h (by decide)
      rw [if_neg hc35] at h
      by_cases hc45 : (a2 &&& (63 : Int32)) = (4 : Int32)
      · rw [if_pos hc45] at h
        refine ap_tabIn (off := 297) (tgt := 330) dL_law_33 (by rw [hc45]; decide) (by rw [hc45]; decide) (by rw [hc45]; rfl) (by decide) ?_
        refine ap_aload_n dL_law_330 1 rfl rfl ?_
        refine ap_aload_n dL_law_331 0 rfl rfl ?_
        refine ap_iload_n dL_law_332 3 rfl rfl ?_
        refine ap_iconst (v := 1) dL_law_333 (by decide) ?_
        refine ap_iadd dL_law_334 ?_
        obtain ⟨a46, ha46, h⟩ := Option.bind_eq_some_iff.mp h
        refine ap_sld rfl ha46 dL_law_335 ?_
        refine ap_aload_n dL_law_336 0 rfl rfl ?_
        refine ap_iload_n dL_law_337 3 rfl rfl ?_
        refine ap_iconst (v := 2) dL_law_338 (by decide) ?_
        refine ap_iadd dL_law_339 ?_
        obtain ⟨a47, ha47, h⟩ := Option.bind_eq_some_iff.mp h
        refine ap_sld rfl ha47 dL_law_340 ?_
        obtain ⟨a48, m49, ha48, h⟩ := ob2_iff h
        refine ap_callV (k := 0) (As := [.int a46, .int a47]) (st := []) (st1 := [.int a48]) (mcX11_light  ha48) cv_L_32 rfl ly_0 ⟨rfl, rfl, by decide, by decide⟩ rfl (Nat.le_of_ble_eq_true rfl) ⟨by decide, by decide⟩ dL_law_341 rfl rfl ?_
        refine ap_aload_n dL_law_344 2 rfl rfl ?_
        refine ap_aload_n dL_law_345 0 rfl rfl ?_
        refine ap_iload_n dL_law_346 3 rfl rfl ?_
        refine ap_iconst (v := 1) dL_law_347 (by decide) ?_
        refine ap_iadd dL_law_348 ?_
        obtain ⟨a50, ha50, h⟩ := Option.bind_eq_some_iff.mp h
        refine ap_sld rfl ha50 dL_law_349 ?_
        refine ap_aload_n dL_law_350 0 rfl rfl ?_
        refine ap_iload_n dL_law_351 3 rfl rfl ?_
        refine ap_iconst (v := 2) dL_law_352 (by decide) ?_
        refine ap_iadd dL_law_353 ?_
        obtain ⟨a51, ha51, h⟩ := Option.bind_eq_some_iff.mp h
        refine ap_sld rfl ha51 dL_law_354 ?_
        obtain ⟨a52, m53, ha52, h⟩ := ob2_iff h
        refine ap_callV (k := 77) (As := [.int a50, .int a51]) (st := [.int a48]) (st1 := [.int a52, .int a48]) (mcX12_light  ha52) cv_L_35 rfl ly_77 ⟨rfl, rfl, by decide, by decide⟩ rfl (Nat.le_of_ble_eq_true rfl) ⟨by decide, by decide⟩ dL_law_355 rfl rfl ?_
        refine ap_icmp_eq (tgt := 1295) dL_law_358 (by decide) (fun hc54 => ?_) (fun hc54 => ?_)
        · rw [if_pos hc54] at h
          refine ap_iinc (v := x3 + 6) (lv' := [(3, .int (x3 + 6)), (0, .ref b), (1, .ref (K.1 0)), (2, .ref (K.1 77))]) dL_law_1295 3 rfl rfl (by decide) rfl ?_
          refine ap_goto (tgt := 18) dL_law_1298 (by decide) ?_
          refine ap_sub [1, 2, 3, 0] rfl ?_
          exact ih _ _ h
        · rw [if_neg hc54] at h
          refine ap_iconst (v := 0) dL_law_361 (by decide) ?_
          exact absurd h (by decide)
      rw [if_neg hc45] at h
      by_cases hc55 : (a2 &&& (63 : Int32)) = (5 : Int32)
      · rw [if_pos hc55] at h
        refine ap_tabIn (off := 330) (tgt := 363) dL_law_33 (by rw [hc55]; decide) (by rw [hc55]; decide) (by rw [hc55]; rfl) (by decide) ?_
        refine ap_aload_n dL_law_363 1 rfl rfl ?_
        obtain ⟨a56, m57, ha56, h⟩ := ob2_iff h
        refine ap_callV (k := 0) (As := []) (st := []) (st1 := [.int a56]) (mcX11_undo  ha56) cv_L_36 rfl ly_0 ⟨rfl, rfl, by decide, by decide⟩ rfl (Nat.le_of_ble_eq_true rfl) ⟨by decide, by decide⟩ dL_law_364 rfl rfl ?_
        refine ap_aload_n dL_law_367 2 rfl rfl ?_
        obtain ⟨a58, m59, ha58, h⟩ := ob2_iff h
        refine ap_callV (k := 77) (As := []) (st := [.int a56]) (st1 := [.int a58, .int a56]) (mcX12_undo  ha58) cv_L_40 rfl ly_77 ⟨rfl, rfl, by decide, by decide⟩ rfl (Nat.le_of_ble_eq_true rfl) ⟨by decide, by decide⟩ dL_law_368 rfl rfl ?_
        refine ap_icmp_eq (tgt := 1295) dL_law_371 (by decide) (fun hc60 => ?_) (fun hc60 => ?_)
        · rw [if_pos hc60] at h
          refine ap_iinc (v := x3 + 6) (lv' := [(3, .int (x3 + 6)), (0, .ref b), (1, .ref (K.1 0)), (2, .ref (K.1 77))]) dL_law_1295 3 rfl rfl (by decide) rfl ?_
          refine ap_goto (tgt := 18) dL_law_1298 (by decide) ?_
          refine ap_sub [1, 2, 3, 0] rfl ?_
          exact ih _ _ h
        · rw [if_neg hc60] at h
          refine ap_iconst (v := 0) dL_law_374 (by decide) ?_
          exact absurd h (by decide)
      rw [if_neg hc55] at h
      by_cases hc61 : (a2 &&& (63 : Int32)) = (6 : Int32)
      · rw [if_pos hc61] at h
        refine ap_tabIn (off := 343) (tgt := 376) dL_law_33 (by rw [hc61]; decide) (by rw [hc61]; decide) (by rw [hc61]; rfl) (by decide) ?_
        refine ap_aload_n dL_law_376 1 rfl rfl ?_
        refine ap_aload_n dL_law_377 0 rfl rfl ?_
        refine ap_iload_n dL_law_378 3 rfl rfl ?_
        refine ap_iconst (v := 1) dL_law_379 (by decide) ?_
        refine ap_iadd dL_law_380 ?_
        obtain ⟨a62, ha62, h⟩ := Option.bind_eq_some_iff.mp h
        refine ap_sld rfl ha62 dL_law_381 ?_
        obtain ⟨a63, m64, ha63, h⟩ := ob2_iff h
        refine ap_callV (k := 0) (As := [.int a62]) (st := []) (st1 := [.int a63]) (mcX11_type  ha63) cv_L_41 rfl ly_0 ⟨rfl, rfl, by decide, by decide⟩ rfl (Nat.le_of_ble_eq_true rfl) ⟨by decide, by decide⟩ dL_law_382 rfl rfl ?_
        refine ap_aload_n dL_law_385 2 rfl rfl ?_
        refine ap_aload_n dL_law_386 0 rfl rfl ?_
        refine ap_iload_n dL_law_387 3 rfl rfl ?_
        refine ap_iconst (v := 1) dL_law_388 (by decide) ?_
        refine ap_iadd dL_law_389 ?_
        obtain ⟨a65, ha65, h⟩ := Option.bind_eq_some_iff.mp h
        refine ap_sld rfl ha65 dL_law_390 ?_
        obtain ⟨a66, m67, ha66, h⟩ := ob2_iff h
        refine ap_callV (k := 77) (As := [.int a65]) (st := [.int a63]) (st1 := [.int a66, .int a63]) (mcX12_type  ha66) cv_L_44 rfl ly_77 ⟨rfl, rfl, by decide, by decide⟩ rfl (Nat.le_of_ble_eq_true rfl) ⟨by decide, by decide⟩ dL_law_391 rfl rfl ?_
        refine ap_icmp_eq (tgt := 1295) dL_law_394 (by decide) (fun hc68 => ?_) (fun hc68 => ?_)
        · rw [if_pos hc68] at h
          refine ap_iinc (v := x3 + 6) (lv' := [(3, .int (x3 + 6)), (0, .ref b), (1, .ref (K.1 0)), (2, .ref (K.1 77))]) dL_law_1295 3 rfl rfl (by decide) rfl ?_
          refine ap_goto (tgt := 18) dL_law_1298 (by decide) ?_
          refine ap_sub [1, 2, 3, 0] rfl ?_
          exact ih _ _ h
        · rw [if_neg hc68] at h
          refine ap_iconst (v := 0) dL_law_397 (by decide) ?_
          exact absurd h (by decide)
      rw [if_neg hc61] at h
      by_cases hc69 : (a2 &&& (63 : Int32)) = (7 : Int32)
      · rw [if_pos hc69] at h
        refine ap_tabIn (off := 366) (tgt := 399) dL_law_33 (by rw [hc69]; decide) (by rw [hc69]; decide) (by rw [hc69]; rfl) (by decide) ?_
        refine ap_aload_n dL_law_399 1 rfl rfl ?_
        obtain ⟨a70, m71, ha70, h⟩ := ob2_iff h
        refine ap_callV (k := 0) (As := []) (st := []) (st1 := [.int a70]) (mcX11_clear  (Option.some.inj ha70)) cv_L_45 rfl ly_0 ⟨rfl, rfl, by decide, by decide⟩ rfl (Nat.le_of_ble_eq_true rfl) ⟨by decide, by decide⟩ dL_law_400 rfl rfl ?_
        refine ap_aload_n dL_law_403 2 rfl rfl ?_
        obtain ⟨a72, m73, ha72, h⟩ := ob2_iff h
        refine ap_callV (k := 77) (As := []) (st := [.int a70]) (st1 := [.int a72, .int a70]) (mcX12_clear  (Option.some.inj ha72)) cv_L_48 rfl ly_77 ⟨rfl, rfl, by decide, by decide⟩ rfl (Nat.le_of_ble_eq_true rfl) ⟨by decide, by decide⟩ dL_law_404 rfl rfl ?_
        refine ap_icmp_eq (tgt := 1295) dL_law_407 (by decide) (fun hc74 => ?_) (fun hc74 => ?_)
        · rw [if_pos hc74] at h
          refine ap_iinc (v := x3 + 6) (lv' := [(3, .int (x3 + 6)), (0, .ref b), (1, .ref (K.1 0)), (2, .ref (K.1 77))]) dL_law_1295 3 rfl rfl (by decide) rfl ?_
          refine ap_goto (tgt := 18) dL_law_1298 (by decide) ?_
          refine ap_sub [1, 2, 3, 0] rfl ?_
          exact ih _ _ h
        · rw [if_neg hc74] at h
          refine ap_iconst (v := 0) dL_law_410 (by decide) ?_
          exact absurd h (by decide)
      rw [if_neg hc69] at h
      by_cases hc75 : (a2 &&& (63 : Int32)) = (8 : Int32)
      · rw [if_pos hc75] at h
        refine ap_tabIn (off := 379) (tgt := 412) dL_law_33 (by rw [hc75]; decide) (by rw [hc75]; decide) (by rw [hc75]; rfl) (by decide) ?_
        refine ap_aload_n dL_law_412 1 rfl rfl ?_
        obtain ⟨a76, m77, ha76, h⟩ := ob2_iff h
        refine ap_callV (k := 0) (As := []) (st := []) (st1 := [.int a76]) (mcX11_read  ha76) cv_L_49 rfl ly_0 ⟨rfl, rfl, by decide, by decide⟩ rfl (Nat.le_of_ble_eq_true rfl) ⟨by decide, by decide⟩ dL_law_413 rfl rfl ?_
        refine ap_aload_n dL_law_416 2 rfl rfl ?_
        obtain ⟨a78, m79, ha78, h⟩ := ob2_iff h
        refine ap_callV (k := 77) (As := []) (st := [.int a76]) (st1 := [.int a78, .int a76]) (mcX12_read  ha78) cv_L_52 rfl ly_77 ⟨rfl, rfl, by decide, by decide⟩ rfl (Nat.le_of_ble_eq_true rfl) ⟨by decide, by decide⟩ dL_law_417 rfl rfl ?_
        refine ap_icmp_eq (tgt := 1295) dL_law_420 (by decide) (fun hc80 => ?_) (fun hc80 => ?_)
        · rw [if_pos hc80] at h
          refine ap_iinc (v := x3 + 6) (lv' := [(3, .int (x3 + 6)), (0, .ref b), (1, .ref (K.1 0)), (2, .ref (K.1 77))]) dL_law_1295 3 rfl rfl (by decide) rfl ?_
          refine ap_goto (tgt := 18) dL_law_1298 (by decide) ?_
          refine ap_sub [1, 2, 3, 0] rfl ?_
          exact ih _ _ h
        · rw [if_neg hc80] at h
          refine ap_iconst (v := 0) dL_law_423 (by decide) ?_
          exact absurd h (by decide)
      rw [if_neg hc75] at h
      by_cases hc81 : (a2 &&& (63 : Int32)) = (9 : Int32)
      · rw [if_pos hc81] at h
        refine ap_tabIn (off := 392) (tgt := 425) dL_law_33 (by rw [hc81]; decide) (by rw [hc81]; decide) (by rw [hc81]; rfl) (by decide) ?_
        refine ap_aload_n dL_law_425 1 rfl rfl ?_
        refine ap_aload_n dL_law_426 0 rfl rfl ?_
        refine ap_iload_n dL_law_427 3 rfl rfl ?_
        refine ap_iconst (v := 1) dL_law_428 (by decide) ?_
        refine ap_iadd dL_law_429 ?_
        obtain ⟨a82, ha82, h⟩ := Option.bind_eq_some_iff.mp h
        refine ap_sld rfl ha82 dL_law_430 ?_
        refine ap_aload_n dL_law_431 0 rfl rfl ?_
        refine ap_iload_n dL_law_432 3 rfl rfl ?_
        refine ap_iconst (v := 2) dL_law_433 (by decide) ?_
        refine ap_iadd dL_law_434 ?_
        obtain ⟨a83, ha83, h⟩ := Option.bind_eq_some_iff.mp h
        refine ap_sld rfl ha83 dL_law_435 ?_
        obtain ⟨a84, m85, ha84, h⟩ := ob2_iff h
        refine ap_callV (k := 0) (As := [.int a82, .int a83]) (st := []) (st1 := [.int a84]) (mcX11_of  ha84) cv_L_53 rfl ly_0 ⟨rfl, rfl, by decide, by decide⟩ rfl (Nat.le_of_ble_eq_true rfl) ⟨by decide, by decide⟩ dL_law_436 rfl rfl ?_
        refine ap_aload_n dL_law_439 2 rfl rfl ?_
        refine ap_aload_n dL_law_440 0 rfl rfl ?_
        refine ap_iload_n dL_law_441 3 rfl rfl ?_
        refine ap_iconst (v := 1) dL_law_442 (by decide) ?_
        refine ap_iadd dL_law_443 ?_
        obtain ⟨a86, ha86, h⟩ := Option.bind_eq_some_iff.mp h
        refine ap_sld rfl ha86 dL_law_444 ?_
        refine ap_aload_n dL_law_445 0 rfl rfl ?_
        refine ap_iload_n dL_law_446 3 rfl rfl ?_
        refine ap_iconst (v := 2) dL_law_447 (by decide) ?_
        refine ap_iadd dL_law_448 ?_
        obtain ⟨a87, ha87, h⟩ := Option.bind_eq_some_iff.mp h
        refine ap_sld rfl ha87 dL_law_449 ?_
        obtain ⟨a88, m89, ha88, h⟩ := ob2_iff h
        refine ap_callV (k := 77) (As := [.int a86, .int a87]) (st := [.int a84]) (st1 := [.int a88, .int a84]) (mcX12_of  ha88) cv_L_56 rfl ly_77 ⟨rfl, rfl, by decide, by decide⟩ rfl (Nat.le_of_ble_eq_true rfl) ⟨by decide, by decide⟩ dL_law_450 rfl rfl ?_
        refine ap_icmp_eq (tgt := 1295) dL_law_453 (by decide) (fun hc90 => ?_) (fun hc90 => ?_)
        · rw [if_pos hc90] at h
          refine ap_iinc (v := x3 + 6) (lv' := [(3, .int (x3 + 6)), (0, .ref b), (1, .ref (K.1 0)), (2, .ref (K.1 77))]) dL_law_1295 3 rfl rfl (by decide) rfl ?_
          refine ap_goto (tgt := 18) dL_law_1298 (by decide) ?_
          refine ap_sub [1, 2, 3, 0] rfl ?_
          exact ih _ _ h
        · rw [if_neg hc90] at h
          refine ap_iconst (v := 0) dL_law_456 (by decide) ?_
          exact absurd h (by decide)
      rw [if_neg hc81] at h
      by_cases hc91 : (a2 &&& (63 : Int32)) = (10 : Int32)
      · rw [if_pos hc91] at h
        refine ap_tabIn (off := 425) (tgt := 458) dL_law_33 (by rw [hc91]; decide) (by rw [hc91]; decide) (by rw [hc91]; rfl) (by decide) ?_
        refine ap_aload_n dL_law_458 1 rfl rfl ?_
        refine ap_aload_n dL_law_459 0 rfl rfl ?_
        refine ap_iload_n dL_law_460 3 rfl rfl ?_
        refine ap_iconst (v := 1) dL_law_461 (by decide) ?_
        refine ap_iadd dL_law_462 ?_
        obtain ⟨a92, ha92, h⟩ := Option.bind_eq_some_iff.mp h
        refine ap_sld rfl ha92 dL_law_463 ?_
        refine ap_aload_n dL_law_464 0 rfl rfl ?_
        refine ap_iload_n dL_law_465 3 rfl rfl ?_
        refine ap_iconst (v := 2) dL_law_466 (by decide) ?_
        refine ap_iadd dL_law_467 ?_
        obtain ⟨a93, ha93, h⟩ := Option.bind_eq_some_iff.mp h
        refine ap_sld rfl ha93 dL_law_468 ?_
        refine ap_aload_n dL_law_469 0 rfl rfl ?_
        refine ap_iload_n dL_law_470 3 rfl rfl ?_
        refine ap_iconst (v := 3) dL_law_471 (by decide) ?_
        refine ap_iadd dL_law_472 ?_
        obtain ⟨a94, ha94, h⟩ := Option.bind_eq_some_iff.mp h
        refine ap_sld rfl ha94 dL_law_473 ?_
        obtain ⟨a95, m96, ha95, h⟩ := ob2_iff h
        refine ap_callV (k := 0) (As := [.int a92, .int a93, .int a94]) (st := []) (st1 := [.int a95]) (mcX11_shines  ha95) cv_L_57 rfl ly_0 ⟨rfl, rfl, by decide, by decide⟩ rfl (Nat.le_of_ble_eq_true rfl) ⟨by decide, by decide⟩ dL_law_474 rfl rfl ?_
        refine ap_aload_n dL_law_477 2 rfl rfl ?_
        refine ap_aload_n dL_law_478 0 rfl rfl ?_
        refine ap_iload_n dL_law_479 3 rfl rfl ?_
        refine ap_iconst (v := 1) dL_law_480 (by decide) ?_
        refine ap_iadd dL_law_481 ?_
        obtain ⟨a97, ha97, h⟩ := Option.bind_eq_some_iff.mp h
        refine ap_sld rfl ha97 dL_law_482 ?_
        refine ap_aload_n dL_law_483 0 rfl rfl ?_
        refine ap_iload_n dL_law_484 3 rfl rfl ?_
        refine ap_iconst (v := 2) dL_law_485 (by decide) ?_
        refine ap_iadd dL_law_486 ?_
        obtain ⟨a98, ha98, h⟩ := Option.bind_eq_some_iff.mp h
        refine ap_sld rfl ha98 dL_law_487 ?_
        refine ap_aload_n dL_law_488 0 rfl rfl ?_
        refine ap_iload_n dL_law_489 3 rfl rfl ?_
        refine ap_iconst (v := 3) dL_law_490 (by decide) ?_
        refine ap_iadd dL_law_491 ?_
        obtain ⟨a99, ha99, h⟩ := Option.bind_eq_some_iff.mp h
        refine ap_sld rfl ha99 dL_law_492 ?_
        obtain ⟨a100, m101, ha100, h⟩ := ob2_iff h
        refine ap_callV (k := 77) (As := [.int a97, .int a98, .int a99]) (st := [.int a95]) (st1 := [.int a100, .int a95]) (mcX12_shines  ha100) cv_L_61 rfl ly_77 ⟨rfl, rfl, by decide, by decide⟩ rfl (Nat.le_of_ble_eq_true rfl) ⟨by decide, by decide⟩ dL_law_493 rfl rfl ?_
        refine ap_icmp_eq (tgt := 1295) dL_law_496 (by decide) (fun hc102 => ?_) (fun hc102 => ?_)
        · rw [if_pos hc102] at h
          refine ap_iinc (v := x3 + 6) (lv' := [(3, .int (x3 + 6)), (0, .ref b), (1, .ref (K.1 0)), (2, .ref (K.1 77))]) dL_law_1295 3 rfl rfl (by decide) rfl ?_
          refine ap_goto (tgt := 18) dL_law_1298 (by decide) ?_
          refine ap_sub [1, 2, 3, 0] rfl ?_
          exact ih _ _ h
        · rw [if_neg hc102] at h
          refine ap_iconst (v := 0) dL_law_499 (by decide) ?_
          exact absurd h (by decide)
      rw [if_neg hc91] at h
      by_cases hc103 : (a2 &&& (63 : Int32)) = (11 : Int32)
      · rw [if_pos hc103] at h
        refine ap_tabIn (off := 468) (tgt := 501) dL_law_33 (by rw [hc103]; decide) (by rw [hc103]; decide) (by rw [hc103]; rfl) (by decide) ?_
        refine ap_aload_n dL_law_501 1 rfl rfl ?_
        refine ap_aload_n dL_law_502 0 rfl rfl ?_
        refine ap_iload_n dL_law_503 3 rfl rfl ?_
        refine ap_iconst (v := 1) dL_law_504 (by decide) ?_
        refine ap_iadd dL_law_505 ?_
        obtain ⟨a104, ha104, h⟩ := Option.bind_eq_some_iff.mp h
        refine ap_sld rfl ha104 dL_law_506 ?_
        refine ap_aload_n dL_law_507 0 rfl rfl ?_
        refine ap_iload_n dL_law_508 3 rfl rfl ?_
        refine ap_iconst (v := 2) dL_law_509 (by decide) ?_
        refine ap_iadd dL_law_510 ?_
        obtain ⟨a105, ha105, h⟩ := Option.bind_eq_some_iff.mp h
        refine ap_sld rfl ha105 dL_law_511 ?_
        refine ap_aload_n dL_law_512 0 rfl rfl ?_
        refine ap_iload_n dL_law_513 3 rfl rfl ?_
        refine ap_iconst (v := 3) dL_law_514 (by decide) ?_
        refine ap_iadd dL_law_515 ?_
        obtain ⟨a106, ha106, h⟩ := Option.bind_eq_some_iff.mp h
        refine ap_sld rfl ha106 dL_law_516 ?_
        obtain ⟨a107, m108, ha107, h⟩ := ob2_iff h
        refine ap_callV (k := 0) (As := [.int a104, .int a105, .int a106]) (st := []) (st1 := [.int a107]) (mcX11_cell  ha107) cv_L_62 rfl ly_0 ⟨rfl, rfl, by decide, by decide⟩ rfl (Nat.le_of_ble_eq_true rfl) ⟨by decide, by decide⟩ dL_law_517 rfl rfl ?_
        refine ap_aload_n dL_law_520 2 rfl rfl ?_
        refine ap_aload_n dL_law_521 0 rfl rfl ?_
        refine ap_iload_n dL_law_522 3 rfl rfl ?_
        refine ap_iconst (v := 1) dL_law_523 (by decide) ?_
        refine ap_iadd dL_law_524 ?_
        obtain ⟨a109, ha109, h⟩ := Option.bind_eq_some_iff.mp h
        refine ap_sld rfl ha109 dL_law_525 ?_
        refine ap_aload_n dL_law_526 0 rfl rfl ?_
        refine ap_iload_n dL_law_527 3 rfl rfl ?_
        refine ap_iconst (v := 2) dL_law_528 (by decide) ?_
        refine ap_iadd dL_law_529 ?_
        obtain ⟨a110, ha110, h⟩ := Option.bind_eq_some_iff.mp h
        refine ap_sld rfl ha110 dL_law_530 ?_
        refine ap_aload_n dL_law_531 0 rfl rfl ?_
        refine ap_iload_n dL_law_532 3 rfl rfl ?_
        refine ap_iconst (v := 3) dL_law_533 (by decide) ?_
        refine ap_iadd dL_law_534 ?_
        obtain ⟨a111, ha111, h⟩ := Option.bind_eq_some_iff.mp h
        refine ap_sld rfl ha111 dL_law_535 ?_
        obtain ⟨a112, m113, ha112, h⟩ := ob2_iff h
        refine ap_callV (k := 77) (As := [.int a109, .int a110, .int a111]) (st := [.int a107]) (st1 := [.int a112, .int a107]) (mcX12_cell  ha112) cv_L_65 rfl ly_77 ⟨rfl, rfl, by decide, by decide⟩ rfl (Nat.le_of_ble_eq_true rfl) ⟨by decide, by decide⟩ dL_law_536 rfl rfl ?_
        refine ap_icmp_eq (tgt := 1295) dL_law_539 (by decide) (fun hc114 => ?_) (fun hc114 => ?_)
        · rw [if_pos hc114] at h
          refine ap_iinc (v := x3 + 6) (lv' := [(3, .int (x3 + 6)), (0, .ref b), (1, .ref (K.1 0)), (2, .ref (K.1 77))]) dL_law_1295 3 rfl rfl (by decide) rfl ?_
          refine ap_goto (tgt := 18) dL_law_1298 (by decide) ?_
          refine ap_sub [1, 2, 3, 0] rfl ?_
          exact ih _ _ h
        · rw [if_neg hc114] at h
          refine ap_iconst (v := 0) dL_law_542 (by decide) ?_
          exact absurd h (by decide)
      rw [if_neg hc103] at h
      by_cases hc115 : (a2 &&& (63 : Int32)) = (12 : Int32)
      · rw [if_pos hc115] at h
        refine ap_tabIn (off := 511) (tgt := 544) dL_law_33 (by rw [hc115]; decide) (by rw [hc115]; decide) (by rw [hc115]; rfl) (by decide) ?_
        refine ap_aload_n dL_law_544 1 rfl rfl ?_
        refine ap_aload_n dL_law_545 0 rfl rfl ?_
        refine ap_iload_n dL_law_546 3 rfl rfl ?_
        refine ap_iconst (v := 1) dL_law_547 (by decide) ?_
        refine ap_iadd dL_law_548 ?_
        obtain ⟨a116, ha116, h⟩ := Option.bind_eq_some_iff.mp h
        refine ap_sld rfl ha116 dL_law_549 ?_
        refine ap_aload_n dL_law_550 0 rfl rfl ?_
        refine ap_iload_n dL_law_551 3 rfl rfl ?_
        refine ap_iconst (v := 2) dL_law_552 (by decide) ?_
        refine ap_iadd dL_law_553 ?_
        obtain ⟨a117, ha117, h⟩ := Option.bind_eq_some_iff.mp h
        refine ap_sld rfl ha117 dL_law_554 ?_
        refine ap_aload_n dL_law_555 0 rfl rfl ?_
        refine ap_iload_n dL_law_556 3 rfl rfl ?_
        refine ap_iconst (v := 3) dL_law_557 (by decide) ?_
        refine ap_iadd dL_law_558 ?_
        obtain ⟨a118, ha118, h⟩ := Option.bind_eq_some_iff.mp h
        refine ap_sld rfl ha118 dL_law_559 ?_
        obtain ⟨a119, m120, ha119, h⟩ := ob2_iff h
        refine ap_callV (k := 0) (As := [.int a116, .int a117, .int a118]) (st := []) (st1 := [.int a119]) (mcX11_acres  ha119) cv_L_66 rfl ly_0 ⟨rfl, rfl, by decide, by decide⟩ rfl (Nat.le_of_ble_eq_true rfl) ⟨by decide, by decide⟩ dL_law_560 rfl rfl ?_
        refine ap_aload_n dL_law_563 2 rfl rfl ?_
        refine ap_aload_n dL_law_564 0 rfl rfl ?_
        refine ap_iload_n dL_law_565 3 rfl rfl ?_
        refine ap_iconst (v := 1) dL_law_566 (by decide) ?_
        refine ap_iadd dL_law_567 ?_
        obtain ⟨a121, ha121, h⟩ := Option.bind_eq_some_iff.mp h
        refine ap_sld rfl ha121 dL_law_568 ?_
        refine ap_aload_n dL_law_569 0 rfl rfl ?_
        refine ap_iload_n dL_law_570 3 rfl rfl ?_
        refine ap_iconst (v := 2) dL_law_571 (by decide) ?_
        refine ap_iadd dL_law_572 ?_
        obtain ⟨a122, ha122, h⟩ := Option.bind_eq_some_iff.mp h
        refine ap_sld rfl ha122 dL_law_573 ?_
        refine ap_aload_n dL_law_574 0 rfl rfl ?_
        refine ap_iload_n dL_law_575 3 rfl rfl ?_
        refine ap_iconst (v := 3) dL_law_576 (by decide) ?_
        refine ap_iadd dL_law_577 ?_
        obtain ⟨a123, ha123, h⟩ := Option.bind_eq_some_iff.mp h
        refine ap_sld rfl ha123 dL_law_578 ?_
        obtain ⟨a124, m125, ha124, h⟩ := ob2_iff h
        refine ap_callV (k := 77) (As := [.int a121, .int a122, .int a123]) (st := [.int a119]) (st1 := [.int a124, .int a119]) (mcX12_acres  ha124) cv_L_69 rfl ly_77 ⟨rfl, rfl, by decide, by decide⟩ rfl (Nat.le_of_ble_eq_true rfl) ⟨by decide, by decide⟩ dL_law_579 rfl rfl ?_
        refine ap_icmp_eq (tgt := 1295) dL_law_582 (by decide) (fun hc126 => ?_) (fun hc126 => ?_)
        · rw [if_pos hc126] at h
          refine ap_iinc (v := x3 + 6) (lv' := [(3, .int (x3 + 6)), (0, .ref b), (1, .ref (K.1 0)), (2, .ref (K.1 77))]) dL_law_1295 3 rfl rfl (by decide) rfl ?_
          refine ap_goto (tgt := 18) dL_law_1298 (by decide) ?_
          refine ap_sub [1, 2, 3, 0] rfl ?_
          exact ih _ _ h
        · rw [if_neg hc126] at h
          refine ap_iconst (v := 0) dL_law_585 (by decide) ?_
          exact absurd h (by decide)
      rw [if_neg hc115] at h
      by_cases hc127 : (a2 &&& (63 : Int32)) = (13 : Int32)
      · rw [if_pos hc127] at h
        refine ap_tabIn (off := 554) (tgt := 587) dL_law_33 (by rw [hc127]; decide) (by rw [hc127]; decide) (by rw [hc127]; rfl) (by decide) ?_
        refine ap_aload_n dL_law_587 1 rfl rfl ?_
        refine ap_aload_n dL_law_588 0 rfl rfl ?_
        refine ap_iload_n dL_law_589 3 rfl rfl ?_
        refine ap_iconst (v := 1) dL_law_590 (by decide) ?_
        refine ap_iadd dL_law_591 ?_
        obtain ⟨a128, ha128, h⟩ := Option.bind_eq_some_iff.mp h
        refine ap_sld rfl ha128 dL_law_592 ?_
        refine ap_aload_n dL_law_593 0 rfl rfl ?_
        refine ap_iload_n dL_law_594 3 rfl rfl ?_
        refine ap_iconst (v := 2) dL_law_595 (by decide) ?_
        refine ap_iadd dL_law_596 ?_
        obtain ⟨a129, ha129, h⟩ := Option.bind_eq_some_iff.mp h
        refine ap_sld rfl ha129 dL_law_597 ?_
        obtain ⟨a130, m131, ha130, h⟩ := ob2_iff h
        refine ap_callV (k := 0) (As := [.int a128, .int a129]) (st := []) (st1 := [.int a130]) (mcX11_hedges  ha130) cv_L_70 rfl ly_0 ⟨rfl, rfl, by decide, by decide⟩ rfl (Nat.le_of_ble_eq_true rfl) ⟨by decide, by decide⟩ dL_law_598 rfl rfl ?_
        refine ap_aload_n dL_law_601 2 rfl rfl ?_
        refine ap_aload_n dL_law_602 0 rfl rfl ?_
        refine ap_iload_n dL_law_603 3 rfl rfl ?_
        refine ap_iconst (v := 1) dL_law_604 (by decide) ?_
        refine ap_iadd dL_law_605 ?_
        obtain ⟨a132, ha132, h⟩ := Option.bind_eq_some_iff.mp h
        refine ap_sld rfl ha132 dL_law_606 ?_
        refine ap_aload_n dL_law_607 0 rfl rfl ?_
        refine ap_iload_n dL_law_608 3 rfl rfl ?_
        refine ap_iconst (v := 2) dL_law_609 (by decide) ?_
        refine ap_iadd dL_law_610 ?_
        obtain ⟨a133, ha133, h⟩ := Option.bind_eq_some_iff.mp h
        refine ap_sld rfl ha133 dL_law_611 ?_
        obtain ⟨a134, m135, ha134, h⟩ := ob2_iff h
        refine ap_callV (k := 77) (As := [.int a132, .int a133]) (st := [.int a130]) (st1 := [.int a134, .int a130]) (mcX12_hedges  ha134) cv_L_73 rfl ly_77 ⟨rfl, rfl, by decide, by decide⟩ rfl (Nat.le_of_ble_eq_true rfl) ⟨by decide, by decide⟩ dL_law_612 rfl rfl ?_
        refine ap_icmp_eq (tgt := 1295) dL_law_615 (by decide) (fun hc136 => ?_) (fun hc136 => ?_)
        · rw [if_pos hc136] at h
          refine ap_iinc (v := x3 + 6) (lv' := [(3, .int (x3 + 6)), (0, .ref b), (1, .ref (K.1 0)), (2, .ref (K.1 77))]) dL_law_1295 3 rfl rfl (by decide) rfl ?_
          refine ap_goto (tgt := 18) dL_law_1298 (by decide) ?_
          refine ap_sub [1, 2, 3, 0] rfl ?_
          exact ih _ _ h
        · rw [if_neg hc136] at h
          refine ap_iconst (v := 0) dL_law_618 (by decide) ?_
          exact absurd h (by decide)
      rw [if_neg hc127] at h
      by_cases hc137 : (a2 &&& (63 : Int32)) = (14 : Int32)
      · rw [if_pos hc137] at h
        refine ap_tabIn (off := 587) (tgt := 620) dL_law_33 (by rw [hc137]; decide) (by rw [hc137]; decide) (by rw [hc137]; rfl) (by decide) ?_
        refine ap_aload_n dL_law_620 1 rfl rfl ?_
        refine ap_aload_n dL_law_621 0 rfl rfl ?_
        refine ap_iload_n dL_law_622 3 rfl rfl ?_
        refine ap_iconst (v := 1) dL_law_623 (by decide) ?_
        refine ap_iadd dL_law_624 ?_
        obtain ⟨a138, ha138, h⟩ := Option.bind_eq_some_iff.mp h
        refine ap_sld rfl ha138 dL_law_625 ?_
        refine ap_aload_n dL_law_626 0 rfl rfl ?_
        refine ap_iload_n dL_law_627 3 rfl rfl ?_
        refine ap_iconst (v := 2) dL_law_628 (by decide) ?_
        refine ap_iadd dL_law_629 ?_
        obtain ⟨a139, ha139, h⟩ := Option.bind_eq_some_iff.mp h
        refine ap_sld rfl ha139 dL_law_630 ?_
        refine ap_aload_n dL_law_631 0 rfl rfl ?_
        refine ap_iload_n dL_law_632 3 rfl rfl ?_
        refine ap_iconst (v := 3) dL_law_633 (by decide) ?_
        refine ap_iadd dL_law_634 ?_
        obtain ⟨a140, ha140, h⟩ := Option.bind_eq_some_iff.mp h
        refine ap_sld rfl ha140 dL_law_635 ?_
        obtain ⟨a141, m142, ha141, h⟩ := ob2_iff h
        refine ap_callV (k := 0) (As := [.int a138, .int a139, .int a140]) (st := []) (st1 := [.int a141]) (mcX11_dark  ha141) cv_L_74 rfl ly_0 ⟨rfl, rfl, by decide, by decide⟩ rfl (Nat.le_of_ble_eq_true rfl) ⟨by decide, by decide⟩ dL_law_636 rfl rfl ?_
        refine ap_aload_n dL_law_639 2 rfl rfl ?_
        refine ap_aload_n dL_law_640 0 rfl rfl ?_
        refine ap_iload_n dL_law_641 3 rfl rfl ?_
        refine ap_iconst (v := 1) dL_law_642 (by decide) ?_
        refine ap_iadd dL_law_643 ?_
        obtain ⟨a143, ha143, h⟩ := Option.bind_eq_some_iff.mp h
        refine ap_sld rfl ha143 dL_law_644 ?_
        refine ap_aload_n dL_law_645 0 rfl rfl ?_
        refine ap_iload_n dL_law_646 3 rfl rfl ?_
        refine ap_iconst (v := 2) dL_law_647 (by decide) ?_
        refine ap_iadd dL_law_648 ?_
        obtain ⟨a144, ha144, h⟩ := Option.bind_eq_some_iff.mp h
        refine ap_sld rfl ha144 dL_law_649 ?_
        refine ap_aload_n dL_law_650 0 rfl rfl ?_
        refine ap_iload_n dL_law_651 3 rfl rfl ?_
        refine ap_iconst (v := 3) dL_law_652 (by decide) ?_
        refine ap_iadd dL_law_653 ?_
        obtain ⟨a145, ha145, h⟩ := Option.bind_eq_some_iff.mp h
        refine ap_sld rfl ha145 dL_law_654 ?_
        obtain ⟨a146, m147, ha146, h⟩ := ob2_iff h
        refine ap_callV (k := 77) (As := [.int a143, .int a144, .int a145]) (st := [.int a141]) (st1 := [.int a146, .int a141]) (mcX12_dark  ha146) cv_L_77 rfl ly_77 ⟨rfl, rfl, by decide, by decide⟩ rfl (Nat.le_of_ble_eq_true rfl) ⟨by decide, by decide⟩ dL_law_655 rfl rfl ?_
        refine ap_icmp_eq (tgt := 1295) dL_law_658 (by decide) (fun hc148 => ?_) (fun hc148 => ?_)
        · rw [if_pos hc148] at h
          refine ap_iinc (v := x3 + 6) (lv' := [(3, .int (x3 + 6)), (0, .ref b), (1, .ref (K.1 0)), (2, .ref (K.1 77))]) dL_law_1295 3 rfl rfl (by decide) rfl ?_
          refine ap_goto (tgt := 18) dL_law_1298 (by decide) ?_
          refine ap_sub [1, 2, 3, 0] rfl ?_
          exact ih _ _ h
        · rw [if_neg hc148] at h
          refine ap_iconst (v := 0) dL_law_661 (by decide) ?_
          exact absurd h (by decide)
      rw [if_neg hc137] at h
      by_cases hc149 : (a2 &&& (63 : Int32)) = (15 : Int32)
      · rw [if_pos hc149] at h
        refine ap_tabIn (off := 630) (tgt := 663) dL_law_33 (by rw [hc149]; decide) (by rw [hc149]; decide) (by rw [hc149]; rfl) (by decide) ?_
        refine ap_aload_n dL_law_663 1 rfl rfl ?_
        refine ap_aload_n dL_law_664 0 rfl rfl ?_
        refine ap_iload_n dL_law_665 3 rfl rfl ?_
        refine ap_iconst (v := 1) dL_law_666 (by decide) ?_
        refine ap_iadd dL_law_667 ?_
        obtain ⟨a150, ha150, h⟩ := Option.bind_eq_some_iff.mp h
        refine ap_sld rfl ha150 dL_law_668 ?_
        obtain ⟨a151, m152, ha151, h⟩ := ob2_iff h
        refine ap_callV (k := 0) (As := [.int a150]) (st := []) (st1 := [.int a151]) (mcX11_want  ha151) cv_L_78 rfl ly_0 ⟨rfl, rfl, by decide, by decide⟩ rfl (Nat.le_of_ble_eq_true rfl) ⟨by decide, by decide⟩ dL_law_669 rfl rfl ?_
        refine ap_aload_n dL_law_672 2 rfl rfl ?_
        refine ap_aload_n dL_law_673 0 rfl rfl ?_
        refine ap_iload_n dL_law_674 3 rfl rfl ?_
        refine ap_iconst (v := 1) dL_law_675 (by decide) ?_
        refine ap_iadd dL_law_676 ?_
        obtain ⟨a153, ha153, h⟩ := Option.bind_eq_some_iff.mp h
        refine ap_sld rfl ha153 dL_law_677 ?_
        obtain ⟨a154, m155, ha154, h⟩ := ob2_iff h
        refine ap_callV (k := 77) (As := [.int a153]) (st := [.int a151]) (st1 := [.int a154, .int a151]) (mcX12_want  ha154) cv_L_81 rfl ly_77 ⟨rfl, rfl, by decide, by decide⟩ rfl (Nat.le_of_ble_eq_true rfl) ⟨by decide, by decide⟩ dL_law_678 rfl rfl ?_
        refine ap_icmp_eq (tgt := 1295) dL_law_681 (by decide) (fun hc156 => ?_) (fun hc156 => ?_)
        · rw [if_pos hc156] at h
          refine ap_iinc (v := x3 + 6) (lv' := [(3, .int (x3 + 6)), (0, .ref b), (1, .ref (K.1 0)), (2, .ref (K.1 77))]) dL_law_1295 3 rfl rfl (by decide) rfl ?_
          refine ap_goto (tgt := 18) dL_law_1298 (by decide) ?_
          refine ap_sub [1, 2, 3, 0] rfl ?_
          exact ih _ _ h
        · rw [if_neg hc156] at h
          refine ap_iconst (v := 0) dL_law_684 (by decide) ?_
          exact absurd h (by decide)
      rw [if_neg hc149] at h
      by_cases hc157 : (a2 &&& (63 : Int32)) = (16 : Int32)
      · rw [if_pos hc157] at h
        refine ap_tabIn (off := 653) (tgt := 686) dL_law_33 (by rw [hc157]; decide) (by rw [hc157]; decide) (by rw [hc157]; rfl) (by decide) ?_
        refine ap_aload_n dL_law_686 1 rfl rfl ?_
        obtain ⟨a158, m159, ha158, h⟩ := ob2_iff h
        refine ap_callV (k := 0) (As := []) (st := []) (st1 := [.int a158]) (mcX11_forget  (Option.some.inj ha158)) cv_L_82 rfl ly_0 ⟨rfl, rfl, by decide, by decide⟩ rfl (Nat.le_of_ble_eq_true rfl) ⟨by decide, by decide⟩ dL_law_687 rfl rfl ?_
        refine ap_aload_n dL_law_690 2 rfl rfl ?_
        obtain ⟨a160, m161, ha160, h⟩ := ob2_iff h
        refine ap_callV (k := 77) (As := []) (st := [.int a158]) (st1 := [.int a160, .int a158]) (mcX12_forget  (Option.some.inj ha160)) cv_L_85 rfl ly_77 ⟨rfl, rfl, by decide, by decide⟩ rfl (Nat.le_of_ble_eq_true rfl) ⟨by decide, by decide⟩ dL_law_691 rfl rfl ?_
        refine ap_icmp_eq (tgt := 1295) dL_law_694 (by decide) (fun hc162 => ?_) (fun hc162 => ?_)
        · rw [if_pos hc162] at h
          refine ap_iinc (v := x3 + 6) (lv' := [(3, .int (x3 + 6)), (0, .ref b), (1, .ref (K.1 0)), (2, .ref (K.1 77))]) dL_law_1295 3 rfl rfl (by decide) rfl ?_
          refine ap_goto (tgt := 18) dL_law_1298 (by decide) ?_
          refine ap_sub [1, 2, 3, 0] rfl ?_
          exact ih _ _ h
        · rw [if_neg hc162] at h
          refine ap_iconst (v := 0) dL_law_697 (by decide) ?_
          exact absurd h (by decide)
      rw [if_neg hc157] at h
      by_cases hc163 : (a2 &&& (63 : Int32)) = (17 : Int32)
      · rw [if_pos hc163] at h
        refine ap_tabIn (off := 666) (tgt := 699) dL_law_33 (by rw [hc163]; decide) (by rw [hc163]; decide) (by rw [hc163]; rfl) (by decide) ?_
        refine ap_aload_n dL_law_699 1 rfl rfl ?_
        refine ap_aload_n dL_law_700 0 rfl rfl ?_
        refine ap_iload_n dL_law_701 3 rfl rfl ?_
        refine ap_iconst (v := 1) dL_law_702 (by decide) ?_
        refine ap_iadd dL_law_703 ?_
        obtain ⟨a164, ha164, h⟩ := Option.bind_eq_some_iff.mp h
        refine ap_sld rfl ha164 dL_law_704 ?_
        refine ap_aload_n dL_law_705 0 rfl rfl ?_
        refine ap_iload_n dL_law_706 3 rfl rfl ?_
        refine ap_iconst (v := 2) dL_law_707 (by decide) ?_
        refine ap_iadd dL_law_708 ?_
        obtain ⟨a165, ha165, h⟩ := Option.bind_eq_some_iff.mp h
        refine ap_sld rfl ha165 dL_law_709 ?_
        obtain ⟨a166, m167, ha166, h⟩ := ob2_iff h
        refine ap_callV (k := 0) (As := [.int a164, .int a165]) (st := []) (st1 := [.int a166]) (mcX11_lighting  ha166) cv_L_86 rfl ly_0 ⟨rfl, rfl, by decide, by decide⟩ rfl (Nat.le_of_ble_eq_true rfl) ⟨by decide, by decide⟩ dL_law_710 rfl rfl ?_
        refine ap_aload_n dL_law_713 2 rfl rfl ?_
        refine ap_aload_n dL_law_714 0 rfl rfl ?_
        refine ap_iload_n dL_law_715 3 rfl rfl ?_
        refine ap_iconst (v := 1) dL_law_716 (by decide) ?_
        refine ap_iadd dL_law_717 ?_
        obtain ⟨a168, ha168, h⟩ := Option.bind_eq_some_iff.mp h
        refine ap_sld rfl ha168 dL_law_718 ?_
        refine ap_aload_n dL_law_719 0 rfl rfl ?_
        refine ap_iload_n dL_law_720 3 rfl rfl ?_
        refine ap_iconst (v := 2) dL_law_721 (by decide) ?_
        refine ap_iadd dL_law_722 ?_
        obtain ⟨a169, ha169, h⟩ := Option.bind_eq_some_iff.mp h
        refine ap_sld rfl ha169 dL_law_723 ?_
        obtain ⟨a170, m171, ha170, h⟩ := ob2_iff h
        refine ap_callV (k := 77) (As := [.int a168, .int a169]) (st := [.int a166]) (st1 := [.int a170, .int a166]) (mcX12_lighting  ha170) cv_L_89 rfl ly_77 ⟨rfl, rfl, by decide, by decide⟩ rfl (Nat.le_of_ble_eq_true rfl) ⟨by decide, by decide⟩ dL_law_724 rfl rfl ?_
        refine ap_icmp_eq (tgt := 1295) dL_law_727 (by decide) (fun hc172 => ?_) (fun hc172 => ?_)
        · rw [if_pos hc172] at h
          refine ap_iinc (v := x3 + 6) (lv' := [(3, .int (x3 + 6)), (0, .ref b), (1, .ref (K.1 0)), (2, .ref (K.1 77))]) dL_law_1295 3 rfl rfl (by decide) rfl ?_
          refine ap_goto (tgt := 18) dL_law_1298 (by decide) ?_
          refine ap_sub [1, 2, 3, 0] rfl ?_
          exact ih _ _ h
        · rw [if_neg hc172] at h
          refine ap_iconst (v := 0) dL_law_730 (by decide) ?_
          exact absurd h (by decide)
      rw [if_neg hc163] at h
      by_cases hc173 : (a2 &&& (63 : Int32)) = (18 : Int32)
      · rw [if_pos hc173] at h
        refine ap_tabIn (off := 699) (tgt := 732) dL_law_33 (by rw [hc173]; decide) (by rw [hc173]; decide) (by rw [hc173]; rfl) (by decide) ?_
        refine ap_aload_n dL_law_732 1 rfl rfl ?_
        refine ap_aload_n dL_law_733 0 rfl rfl ?_
        refine ap_iload_n dL_law_734 3 rfl rfl ?_
        refine ap_iconst (v := 1) dL_law_735 (by decide) ?_
        refine ap_iadd dL_law_736 ?_
        obtain ⟨a174, ha174, h⟩ := Option.bind_eq_some_iff.mp h
        refine ap_sld rfl ha174 dL_law_737 ?_
        refine ap_aload_n dL_law_738 0 rfl rfl ?_
        refine ap_iload_n dL_law_739 3 rfl rfl ?_
        refine ap_iconst (v := 2) dL_law_740 (by decide) ?_
        refine ap_iadd dL_law_741 ?_
        obtain ⟨a175, ha175, h⟩ := Option.bind_eq_some_iff.mp h
        refine ap_sld rfl ha175 dL_law_742 ?_
        obtain ⟨a176, m177, ha176, h⟩ := ob2_iff h
        refine ap_callV (k := 0) (As := [.int a174, .int a175]) (st := []) (st1 := [.int a176]) (mcX11_tallow  ha176) cv_L_90 rfl ly_0 ⟨rfl, rfl, by decide, by decide⟩ rfl (Nat.le_of_ble_eq_true rfl) ⟨by decide, by decide⟩ dL_law_743 rfl rfl ?_
        refine ap_aload_n dL_law_746 2 rfl rfl ?_
        refine ap_aload_n dL_law_747 0 rfl rfl ?_
        refine ap_iload_n dL_law_748 3 rfl rfl ?_
        refine ap_iconst (v := 1) dL_law_749 (by decide) ?_
        refine ap_iadd dL_law_750 ?_
        obtain ⟨a178, ha178, h⟩ := Option.bind_eq_some_iff.mp h
        refine ap_sld rfl ha178 dL_law_751 ?_
        refine ap_aload_n dL_law_752 0 rfl rfl ?_
        refine ap_iload_n dL_law_753 3 rfl rfl ?_
        refine ap_iconst (v := 2) dL_law_754 (by decide) ?_
        refine ap_iadd dL_law_755 ?_
        obtain ⟨a179, ha179, h⟩ := Option.bind_eq_some_iff.mp h
        refine ap_sld rfl ha179 dL_law_756 ?_
        obtain ⟨a180, m181, ha180, h⟩ := ob2_iff h
        refine ap_callV (k := 77) (As := [.int a178, .int a179]) (st := [.int a176]) (st1 := [.int a180, .int a176]) (mcX12_tallow  ha180) cv_L_93 rfl ly_77 ⟨rfl, rfl, by decide, by decide⟩ rfl (Nat.le_of_ble_eq_true rfl) ⟨by decide, by decide⟩ dL_law_757 rfl rfl ?_
        refine ap_icmp_eq (tgt := 1295) dL_law_760 (by decide) (fun hc182 => ?_) (fun hc182 => ?_)
        · rw [if_pos hc182] at h
          refine ap_iinc (v := x3 + 6) (lv' := [(3, .int (x3 + 6)), (0, .ref b), (1, .ref (K.1 0)), (2, .ref (K.1 77))]) dL_law_1295 3 rfl rfl (by decide) rfl ?_
          refine ap_goto (tgt := 18) dL_law_1298 (by decide) ?_
          refine ap_sub [1, 2, 3, 0] rfl ?_
          exact ih _ _ h
        · rw [if_neg hc182] at h
          refine ap_iconst (v := 0) dL_law_763 (by decide) ?_
          exact absurd h (by decide)
      rw [if_neg hc173] at h
      by_cases hc183 : (a2 &&& (63 : Int32)) = (19 : Int32)
      · rw [if_pos hc183] at h
        refine ap_tabIn (off := 732) (tgt := 765) dL_law_33 (by rw [hc183]; decide) (by rw [hc183]; decide) (by rw [hc183]; rfl) (by decide) ?_
        refine ap_aload_n dL_law_765 1 rfl rfl ?_
        refine ap_aload_n dL_law_766 0 rfl rfl ?_
        refine ap_iload_n dL_law_767 3 rfl rfl ?_
        refine ap_iconst (v := 1) dL_law_768 (by decide) ?_
        refine ap_iadd dL_law_769 ?_
        obtain ⟨a184, ha184, h⟩ := Option.bind_eq_some_iff.mp h
        refine ap_sld rfl ha184 dL_law_770 ?_
        refine ap_aload_n dL_law_771 0 rfl rfl ?_
        refine ap_iload_n dL_law_772 3 rfl rfl ?_
        refine ap_iconst (v := 2) dL_law_773 (by decide) ?_
        refine ap_iadd dL_law_774 ?_
        obtain ⟨a185, ha185, h⟩ := Option.bind_eq_some_iff.mp h
        refine ap_sld rfl ha185 dL_law_775 ?_
        obtain ⟨a186, m187, ha186, h⟩ := ob2_iff h
        refine ap_callV (k := 0) (As := [.int a184, .int a185]) (st := []) (st1 := [.int a186]) (mcX11_put  ha186) cv_L_94 rfl ly_0 ⟨rfl, rfl, by decide, by decide⟩ rfl (Nat.le_of_ble_eq_true rfl) ⟨by decide, by decide⟩ dL_law_776 rfl rfl ?_
        refine ap_aload_n dL_law_779 2 rfl rfl ?_
        refine ap_aload_n dL_law_780 0 rfl rfl ?_
        refine ap_iload_n dL_law_781 3 rfl rfl ?_
        refine ap_iconst (v := 1) dL_law_782 (by decide) ?_
        refine ap_iadd dL_law_783 ?_
        obtain ⟨a188, ha188, h⟩ := Option.bind_eq_some_iff.mp h
        refine ap_sld rfl ha188 dL_law_784 ?_
        refine ap_aload_n dL_law_785 0 rfl rfl ?_
        refine ap_iload_n dL_law_786 3 rfl rfl ?_
        refine ap_iconst (v := 2) dL_law_787 (by decide) ?_
        refine ap_iadd dL_law_788 ?_
        obtain ⟨a189, ha189, h⟩ := Option.bind_eq_some_iff.mp h
        refine ap_sld rfl ha189 dL_law_789 ?_
        obtain ⟨a190, m191, ha190, h⟩ := ob2_iff h
        refine ap_callV (k := 77) (As := [.int a188, .int a189]) (st := [.int a186]) (st1 := [.int a190, .int a186]) (mcX12_put  ha190) cv_L_97 rfl ly_77 ⟨rfl, rfl, by decide, by decide⟩ rfl (Nat.le_of_ble_eq_true rfl) ⟨by decide, by decide⟩ dL_law_790 rfl rfl ?_
        refine ap_icmp_eq (tgt := 1295) dL_law_793 (by decide) (fun hc192 => ?_) (fun hc192 => ?_)
        · rw [if_pos hc192] at h
          refine ap_iinc (v := x3 + 6) (lv' := [(3, .int (x3 + 6)), (0, .ref b), (1, .ref (K.1 0)), (2, .ref (K.1 77))]) dL_law_1295 3 rfl rfl (by decide) rfl ?_
          refine ap_goto (tgt := 18) dL_law_1298 (by decide) ?_
          refine ap_sub [1, 2, 3, 0] rfl ?_
          exact ih _ _ h
        · rw [if_neg hc192] at h
          refine ap_iconst (v := 0) dL_law_796 (by decide) ?_
          exact absurd h (by decide)
      rw [if_neg hc183] at h
      by_cases hc193 : (a2 &&& (63 : Int32)) = (20 : Int32)
      · rw [if_pos hc193] at h
        refine ap_tabIn (off := 765) (tgt := 798) dL_law_33 (by rw [hc193]; decide) (by rw [hc193]; decide) (by rw [hc193]; rfl) (by decide) ?_
        refine ap_aload_n dL_law_798 1 rfl rfl ?_
        refine ap_aload_n dL_law_799 0 rfl rfl ?_
        refine ap_iload_n dL_law_800 3 rfl rfl ?_
        refine ap_iconst (v := 1) dL_law_801 (by decide) ?_
        refine ap_iadd dL_law_802 ?_
        obtain ⟨a194, ha194, h⟩ := Option.bind_eq_some_iff.mp h
        refine ap_sld rfl ha194 dL_law_803 ?_
        refine ap_aload_n dL_law_804 0 rfl rfl ?_
        refine ap_iload_n dL_law_805 3 rfl rfl ?_
        refine ap_iconst (v := 2) dL_law_806 (by decide) ?_
        refine ap_iadd dL_law_807 ?_
        obtain ⟨a195, ha195, h⟩ := Option.bind_eq_some_iff.mp h
        refine ap_sld rfl ha195 dL_law_808 ?_
        refine ap_aload_n dL_law_809 0 rfl rfl ?_
        refine ap_iload_n dL_law_810 3 rfl rfl ?_
        refine ap_iconst (v := 3) dL_law_811 (by decide) ?_
        refine ap_iadd dL_law_812 ?_
        obtain ⟨a196, ha196, h⟩ := Option.bind_eq_some_iff.mp h
        refine ap_sld rfl ha196 dL_law_813 ?_
        refine ap_aload_n dL_law_814 0 rfl rfl ?_
        refine ap_iload_n dL_law_815 3 rfl rfl ?_
        refine ap_iconst (v := 4) dL_law_816 (by decide) ?_
        refine ap_iadd dL_law_817 ?_
        obtain ⟨a197, ha197, h⟩ := Option.bind_eq_some_iff.mp h
        refine ap_sld rfl ha197 dL_law_818 ?_
        refine ap_aload_n dL_law_819 0 rfl rfl ?_
        refine ap_iload_n dL_law_820 3 rfl rfl ?_
        refine ap_iconst (v := 5) dL_law_821 (by decide) ?_
        refine ap_iadd dL_law_822 ?_
        obtain ⟨a198, ha198, h⟩ := Option.bind_eq_some_iff.mp h
        refine ap_sld rfl ha198 dL_law_823 ?_
        obtain ⟨a199, m200, ha199, h⟩ := ob2_iff h
        refine ap_callV (k := 0) (As := [.int a194, .int a195, .int a196, .int a197, .int a198]) (st := []) (st1 := [.int a199]) (mcX11_thief  ha199) cv_L_98 rfl ly_0 ⟨rfl, rfl, by decide, by decide⟩ rfl (Nat.le_of_ble_eq_true rfl) ⟨by decide, by decide⟩ dL_law_824 rfl rfl ?_
        refine ap_aload_n dL_law_827 2 rfl rfl ?_
        refine ap_aload_n dL_law_828 0 rfl rfl ?_
        refine ap_iload_n dL_law_829 3 rfl rfl ?_
        refine ap_iconst (v := 1) dL_law_830 (by decide) ?_
        refine ap_iadd dL_law_831 ?_
        obtain ⟨a201, ha201, h⟩ := Option.bind_eq_some_iff.mp h
        refine ap_sld rfl ha201 dL_law_832 ?_
        refine ap_aload_n dL_law_833 0 rfl rfl ?_
        refine ap_iload_n dL_law_834 3 rfl rfl ?_
        refine ap_iconst (v := 2) dL_law_835 (by decide) ?_
        refine ap_iadd dL_law_836 ?_
        obtain ⟨a202, ha202, h⟩ := Option.bind_eq_some_iff.mp h
        refine ap_sld rfl ha202 dL_law_837 ?_
        refine ap_aload_n dL_law_838 0 rfl rfl ?_
        refine ap_iload_n dL_law_839 3 rfl rfl ?_
        refine ap_iconst (v := 3) dL_law_840 (by decide) ?_
        refine ap_iadd dL_law_841 ?_
        obtain ⟨a203, ha203, h⟩ := Option.bind_eq_some_iff.mp h
        refine ap_sld rfl ha203 dL_law_842 ?_
        refine ap_aload_n dL_law_843 0 rfl rfl ?_
        refine ap_iload_n dL_law_844 3 rfl rfl ?_
        refine ap_iconst (v := 4) dL_law_845 (by decide) ?_
        refine ap_iadd dL_law_846 ?_
        obtain ⟨a204, ha204, h⟩ := Option.bind_eq_some_iff.mp h
        refine ap_sld rfl ha204 dL_law_847 ?_
        refine ap_aload_n dL_law_848 0 rfl rfl ?_
        refine ap_iload_n dL_law_849 3 rfl rfl ?_
        refine ap_iconst (v := 5) dL_law_850 (by decide) ?_
        refine ap_iadd dL_law_851 ?_
        obtain ⟨a205, ha205, h⟩ := Option.bind_eq_some_iff.mp h
        refine ap_sld rfl ha205 dL_law_852 ?_
        obtain ⟨a206, m207, ha206, h⟩ := ob2_iff h
        refine ap_callV (k := 77) (As := [.int a201, .int a202, .int a203, .int a204, .int a205]) (st := [.int a199]) (st1 := [.int a206, .int a199]) (mcX12_thief  ha206) cv_L_101 rfl ly_77 ⟨rfl, rfl, by decide, by decide⟩ rfl (Nat.le_of_ble_eq_true rfl) ⟨by decide, by decide⟩ dL_law_853 rfl rfl ?_
        refine ap_icmp_eq (tgt := 1295) dL_law_856 (by decide) (fun hc208 => ?_) (fun hc208 => ?_)
        · rw [if_pos hc208] at h
          refine ap_iinc (v := x3 + 6) (lv' := [(3, .int (x3 + 6)), (0, .ref b), (1, .ref (K.1 0)), (2, .ref (K.1 77))]) dL_law_1295 3 rfl rfl (by decide) rfl ?_
          refine ap_goto (tgt := 18) dL_law_1298 (by decide) ?_
          refine ap_sub [1, 2, 3, 0] rfl ?_
          exact ih _ _ h
        · rw [if_neg hc208] at h
          refine ap_iconst (v := 0) dL_law_859 (by decide) ?_
          exact absurd h (by decide)
      rw [if_neg hc193] at h
      by_cases hc209 : (a2 &&& (63 : Int32)) = (21 : Int32)
      · rw [if_pos hc209] at h
        refine ap_tabIn (off := 828) (tgt := 861) dL_law_33 (by rw [hc209]; decide) (by rw [hc209]; decide) (by rw [hc209]; rfl) (by decide) ?_
        refine ap_aload_n dL_law_861 1 rfl rfl ?_
        refine ap_aload_n dL_law_862 0 rfl rfl ?_
        refine ap_iload_n dL_law_863 3 rfl rfl ?_
        refine ap_iconst (v := 1) dL_law_864 (by decide) ?_
        refine ap_iadd dL_law_865 ?_
        obtain ⟨a210, ha210, h⟩ := Option.bind_eq_some_iff.mp h
        refine ap_sld rfl ha210 dL_law_866 ?_
        refine ap_aload_n dL_law_867 0 rfl rfl ?_
        refine ap_iload_n dL_law_868 3 rfl rfl ?_
        refine ap_iconst (v := 2) dL_law_869 (by decide) ?_
        refine ap_iadd dL_law_870 ?_
        obtain ⟨a211, ha211, h⟩ := Option.bind_eq_some_iff.mp h
        refine ap_sld rfl ha211 dL_law_871 ?_
        refine ap_aload_n dL_law_872 0 rfl rfl ?_
        refine ap_iload_n dL_law_873 3 rfl rfl ?_
        refine ap_iconst (v := 3) dL_law_874 (by decide) ?_
        refine ap_iadd dL_law_875 ?_
        obtain ⟨a212, ha212, h⟩ := Option.bind_eq_some_iff.mp h
        refine ap_sld rfl ha212 dL_law_876 ?_
        obtain ⟨a213, m214, ha213, h⟩ := ob2_iff h
        refine ap_callV (k := 0) (As := [.int a210, .int a211, .int a212]) (st := []) (st1 := [.int a213]) (mcX11_wedding  ha213) cv_L_102 rfl ly_0 ⟨rfl, rfl, by decide, by decide⟩ rfl (Nat.le_of_ble_eq_true rfl) ⟨by decide, by decide⟩ dL_law_877 rfl rfl ?_
        refine ap_aload_n dL_law_880 2 rfl rfl ?_
        refine ap_aload_n dL_law_881 0 rfl rfl ?_
        refine ap_iload_n dL_law_882 3 rfl rfl ?_
        refine ap_iconst (v := 1) dL_law_883 (by decide) ?_
        refine ap_iadd dL_law_884 ?_
        obtain ⟨a215, ha215, h⟩ := Option.bind_eq_some_iff.mp h
        refine ap_sld rfl ha215 dL_law_885 ?_
        refine ap_aload_n dL_law_886 0 rfl rfl ?_
        refine ap_iload_n dL_law_887 3 rfl rfl ?_
        refine ap_iconst (v := 2) dL_law_888 (by decide) ?_
        refine ap_iadd dL_law_889 ?_
        obtain ⟨a216, ha216, h⟩ := Option.bind_eq_some_iff.mp h
        refine ap_sld rfl ha216 dL_law_890 ?_
        refine ap_aload_n dL_law_891 0 rfl rfl ?_
        refine ap_iload_n dL_law_892 3 rfl rfl ?_
        refine ap_iconst (v := 3) dL_law_893 (by decide) ?_
        refine ap_iadd dL_law_894 ?_
        obtain ⟨a217, ha217, h⟩ := Option.bind_eq_some_iff.mp h
        refine ap_sld rfl ha217 dL_law_895 ?_
        obtain ⟨a218, m219, ha218, h⟩ := ob2_iff h
        refine ap_callV (k := 77) (As := [.int a215, .int a216, .int a217]) (st := [.int a213]) (st1 := [.int a218, .int a213]) (mcX12_wedding  ha218) cv_L_105 rfl ly_77 ⟨rfl, rfl, by decide, by decide⟩ rfl (Nat.le_of_ble_eq_true rfl) ⟨by decide, by decide⟩ dL_law_896 rfl rfl ?_
        refine ap_icmp_eq (tgt := 1295) dL_law_899 (by decide) (fun hc220 => ?_) (fun hc220 => ?_)
        · rw [if_pos hc220] at h
          refine ap_iinc (v := x3 + 6) (lv' := [(3, .int (x3 + 6)), (0, .ref b), (1, .ref (K.1 0)), (2, .ref (K.1 77))]) dL_law_1295 3 rfl rfl (by decide) rfl ?_
          refine ap_goto (tgt := 18) dL_law_1298 (by decide) ?_
          refine ap_sub [1, 2, 3, 0] rfl ?_
          exact ih _ _ h
        · rw [if_neg hc220] at h
          refine ap_iconst (v := 0) dL_law_902 (by decide) ?_
          exact absurd h (by decide)
      rw [if_neg hc209] at h
      by_cases hc221 : (a2 &&& (63 : Int32)) = (22 : Int32)
      · rw [if_pos hc221] at h
        refine ap_tabIn (off := 871) (tgt := 904) dL_law_33 (by rw [hc221]; decide) (by rw [hc221]; decide) (by rw [hc221]; rfl) (by decide) ?_
        refine ap_aload_n dL_law_904 1 rfl rfl ?_
        refine ap_aload_n dL_law_905 0 rfl rfl ?_
        refine ap_iload_n dL_law_906 3 rfl rfl ?_
        refine ap_iconst (v := 1) dL_law_907 (by decide) ?_
        refine ap_iadd dL_law_908 ?_
        obtain ⟨a222, ha222, h⟩ := Option.bind_eq_some_iff.mp h
        refine ap_sld rfl ha222 dL_law_909 ?_
        refine ap_aload_n dL_law_910 0 rfl rfl ?_
        refine ap_iload_n dL_law_911 3 rfl rfl ?_
        refine ap_iconst (v := 2) dL_law_912 (by decide) ?_
        refine ap_iadd dL_law_913 ?_
        obtain ⟨a223, ha223, h⟩ := Option.bind_eq_some_iff.mp h
        refine ap_sld rfl ha223 dL_law_914 ?_
        refine ap_aload_n dL_law_915 0 rfl rfl ?_
        refine ap_iload_n dL_law_916 3 rfl rfl ?_
        refine ap_iconst (v := 3) dL_law_917 (by decide) ?_
        refine ap_iadd dL_law_918 ?_
        obtain ⟨a224, ha224, h⟩ := Option.bind_eq_some_iff.mp h
        refine ap_sld rfl ha224 dL_law_919 ?_
        refine ap_aload_n dL_law_920 0 rfl rfl ?_
        refine ap_iload_n dL_law_921 3 rfl rfl ?_
        refine ap_iconst (v := 4) dL_law_922 (by decide) ?_
        refine ap_iadd dL_law_923 ?_
        obtain ⟨a225, ha225, h⟩ := Option.bind_eq_some_iff.mp h
        refine ap_sld rfl ha225 dL_law_924 ?_
        obtain ⟨a226, m227, ha226, h⟩ := ob2_iff h
        refine ap_callV (k := 0) (As := [.int a222, .int a223, .int a224, .int a225]) (st := []) (st1 := [.int a226]) (mcX11_spite  ha226) cv_L_106 rfl ly_0 ⟨rfl, rfl, by decide, by decide⟩ rfl (Nat.le_of_ble_eq_true rfl) ⟨by decide, by decide⟩ dL_law_925 rfl rfl ?_
        refine ap_aload_n dL_law_928 2 rfl rfl ?_
        refine ap_aload_n dL_law_929 0 rfl rfl ?_
        refine ap_iload_n dL_law_930 3 rfl rfl ?_
        refine ap_iconst (v := 1) dL_law_931 (by decide) ?_
        refine ap_iadd dL_law_932 ?_
        obtain ⟨a228, ha228, h⟩ := Option.bind_eq_some_iff.mp h
        refine ap_sld rfl ha228 dL_law_933 ?_
        refine ap_aload_n dL_law_934 0 rfl rfl ?_
        refine ap_iload_n dL_law_935 3 rfl rfl ?_
        refine ap_iconst (v := 2) dL_law_936 (by decide) ?_
        refine ap_iadd dL_law_937 ?_
        obtain ⟨a229, ha229, h⟩ := Option.bind_eq_some_iff.mp h
        refine ap_sld rfl ha229 dL_law_938 ?_
        refine ap_aload_n dL_law_939 0 rfl rfl ?_
        refine ap_iload_n dL_law_940 3 rfl rfl ?_
        refine ap_iconst (v := 3) dL_law_941 (by decide) ?_
        refine ap_iadd dL_law_942 ?_
        obtain ⟨a230, ha230, h⟩ := Option.bind_eq_some_iff.mp h
        refine ap_sld rfl ha230 dL_law_943 ?_
        refine ap_aload_n dL_law_944 0 rfl rfl ?_
        refine ap_iload_n dL_law_945 3 rfl rfl ?_
        refine ap_iconst (v := 4) dL_law_946 (by decide) ?_
        refine ap_iadd dL_law_947 ?_
        obtain ⟨a231, ha231, h⟩ := Option.bind_eq_some_iff.mp h
        refine ap_sld rfl ha231 dL_law_948 ?_
        obtain ⟨a232, m233, ha232, h⟩ := ob2_iff h
        refine ap_callV (k := 77) (As := [.int a228, .int a229, .int a230, .int a231]) (st := [.int a226]) (st1 := [.int a232, .int a226]) (mcX12_spite  ha232) cv_L_110 rfl ly_77 ⟨rfl, rfl, by decide, by decide⟩ rfl (Nat.le_of_ble_eq_true rfl) ⟨by decide, by decide⟩ dL_law_949 rfl rfl ?_
        refine ap_icmp_eq (tgt := 1295) dL_law_952 (by decide) (fun hc234 => ?_) (fun hc234 => ?_)
        · rw [if_pos hc234] at h
          refine ap_iinc (v := x3 + 6) (lv' := [(3, .int (x3 + 6)), (0, .ref b), (1, .ref (K.1 0)), (2, .ref (K.1 77))]) dL_law_1295 3 rfl rfl (by decide) rfl ?_
          refine ap_goto (tgt := 18) dL_law_1298 (by decide) ?_
          refine ap_sub [1, 2, 3, 0] rfl ?_
          exact ih _ _ h
        · rw [if_neg hc234] at h
          refine ap_iconst (v := 0) dL_law_955 (by decide) ?_
          exact absurd h (by decide)
      rw [if_neg hc221] at h
      by_cases hc235 : (a2 &&& (63 : Int32)) = (23 : Int32)
      · rw [if_pos hc235] at h
        refine ap_tabIn (off := 924) (tgt := 957) dL_law_33 (by rw [hc235]; decide) (by rw [hc235]; decide) (by rw [hc235]; rfl) (by decide) ?_
        refine ap_aload_n dL_law_957 1 rfl rfl ?_
        refine ap_aload_n dL_law_958 0 rfl rfl ?_
        refine ap_iload_n dL_law_959 3 rfl rfl ?_
        refine ap_iconst (v := 1) dL_law_960 (by decide) ?_
        refine ap_iadd dL_law_961 ?_
        obtain ⟨a236, ha236, h⟩ := Option.bind_eq_some_iff.mp h
        refine ap_sld rfl ha236 dL_law_962 ?_
        refine ap_aload_n dL_law_963 0 rfl rfl ?_
        refine ap_iload_n dL_law_964 3 rfl rfl ?_
        refine ap_iconst (v := 2) dL_law_965 (by decide) ?_
        refine ap_iadd dL_law_966 ?_
        obtain ⟨a237, ha237, h⟩ := Option.bind_eq_some_iff.mp h
        refine ap_sld rfl ha237 dL_law_967 ?_
        refine ap_aload_n dL_law_968 0 rfl rfl ?_
        refine ap_iload_n dL_law_969 3 rfl rfl ?_
        refine ap_iconst (v := 3) dL_law_970 (by decide) ?_
        refine ap_iadd dL_law_971 ?_
        obtain ⟨a238, ha238, h⟩ := Option.bind_eq_some_iff.mp h
        refine ap_sld rfl ha238 dL_law_972 ?_
        obtain ⟨a239, m240, ha239, h⟩ := ob2_iff h
        refine ap_callV (k := 0) (As := [.int a236, .int a237, .int a238]) (st := []) (st1 := [.int a239]) (mcX11_reading  ha239) cv_L_111 rfl ly_0 ⟨rfl, rfl, by decide, by decide⟩ rfl (Nat.le_of_ble_eq_true rfl) ⟨by decide, by decide⟩ dL_law_973 rfl rfl ?_
        refine ap_aload_n dL_law_976 2 rfl rfl ?_
        refine ap_aload_n dL_law_977 0 rfl rfl ?_
        refine ap_iload_n dL_law_978 3 rfl rfl ?_
        refine ap_iconst (v := 1) dL_law_979 (by decide) ?_
        refine ap_iadd dL_law_980 ?_
        obtain ⟨a241, ha241, h⟩ := Option.bind_eq_some_iff.mp h
        refine ap_sld rfl ha241 dL_law_981 ?_
        refine ap_aload_n dL_law_982 0 rfl rfl ?_
        refine ap_iload_n dL_law_983 3 rfl rfl ?_
        refine ap_iconst (v := 2) dL_law_984 (by decide) ?_
        refine ap_iadd dL_law_985 ?_
        obtain ⟨a242, ha242, h⟩ := Option.bind_eq_some_iff.mp h
        refine ap_sld rfl ha242 dL_law_986 ?_
        refine ap_aload_n dL_law_987 0 rfl rfl ?_
        refine ap_iload_n dL_law_988 3 rfl rfl ?_
        refine ap_iconst (v := 3) dL_law_989 (by decide) ?_
        refine ap_iadd dL_law_990 ?_
        obtain ⟨a243, ha243, h⟩ := Option.bind_eq_some_iff.mp h
        refine ap_sld rfl ha243 dL_law_991 ?_
        obtain ⟨a244, m245, ha244, h⟩ := ob2_iff h
        refine ap_callV (k := 77) (As := [.int a241, .int a242, .int a243]) (st := [.int a239]) (st1 := [.int a244, .int a239]) (mcX12_reading  ha244) cv_L_114 rfl ly_77 ⟨rfl, rfl, by decide, by decide⟩ rfl (Nat.le_of_ble_eq_true rfl) ⟨by decide, by decide⟩ dL_law_992 rfl rfl ?_
        refine ap_icmp_eq (tgt := 1295) dL_law_995 (by decide) (fun hc246 => ?_) (fun hc246 => ?_)
        · rw [if_pos hc246] at h
          refine ap_iinc (v := x3 + 6) (lv' := [(3, .int (x3 + 6)), (0, .ref b), (1, .ref (K.1 0)), (2, .ref (K.1 77))]) dL_law_1295 3 rfl rfl (by decide) rfl ?_
          refine ap_goto (tgt := 18) dL_law_1298 (by decide) ?_
          refine ap_sub [1, 2, 3, 0] rfl ?_
          exact ih _ _ h
        · rw [if_neg hc246] at h
          refine ap_iconst (v := 0) dL_law_998 (by decide) ?_
          exact absurd h (by decide)
      rw [if_neg hc235] at h
      by_cases hc247 : (a2 &&& (63 : Int32)) = (24 : Int32)
      · rw [if_pos hc247] at h
        refine ap_tabIn (off := 967) (tgt := 1000) dL_law_33 (by rw [hc247]; decide) (by rw [hc247]; decide) (by rw [hc247]; rfl) (by decide) ?_
        refine ap_aload_n dL_law_1000 1 rfl rfl ?_
        obtain ⟨a248, m249, ha248, h⟩ := ob2_iff h
        refine ap_callV (k := 0) (As := []) (st := []) (st1 := [.int a248]) (mcX11_burnt  (Option.some.inj ha248)) cv_L_115 rfl ly_0 ⟨rfl, rfl, by decide, by decide⟩ rfl (Nat.le_of_ble_eq_true rfl) ⟨by decide, by decide⟩ dL_law_1001 rfl rfl ?_
        refine ap_aload_n dL_law_1004 2 rfl rfl ?_
        obtain ⟨a250, m251, ha250, h⟩ := ob2_iff h
        refine ap_callV (k := 77) (As := []) (st := [.int a248]) (st1 := [.int a250, .int a248]) (mcX12_burnt  (Option.some.inj ha250)) cv_L_118 rfl ly_77 ⟨rfl, rfl, by decide, by decide⟩ rfl (Nat.le_of_ble_eq_true rfl) ⟨by decide, by decide⟩ dL_law_1005 rfl rfl ?_
        refine ap_icmp_eq (tgt := 1295) dL_law_1008 (by decide) (fun hc252 => ?_) (fun hc252 => ?_)
        · rw [if_pos hc252] at h
          refine ap_iinc (v := x3 + 6) (lv' := [(3, .int (x3 + 6)), (0, .ref b), (1, .ref (K.1 0)), (2, .ref (K.1 77))]) dL_law_1295 3 rfl rfl (by decide) rfl ?_
          refine ap_goto (tgt := 18) dL_law_1298 (by decide) ?_
          refine ap_sub [1, 2, 3, 0] rfl ?_
          exact ih _ _ h
        · rw [if_neg hc252] at h
          refine ap_iconst (v := 0) dL_law_1011 (by decide) ?_
          exact absurd h (by decide)
      rw [if_neg hc247] at h
      by_cases hc253 : (a2 &&& (63 : Int32)) = (25 : Int32)
      · rw [if_pos hc253] at h
        refine ap_tabIn (off := 980) (tgt := 1013) dL_law_33 (by rw [hc253]; decide) (by rw [hc253]; decide) (by rw [hc253]; rfl) (by decide) ?_
        refine ap_aload_n dL_law_1013 1 rfl rfl ?_
        refine ap_aload_n dL_law_1014 0 rfl rfl ?_
        refine ap_iload_n dL_law_1015 3 rfl rfl ?_
        refine ap_iconst (v := 1) dL_law_1016 (by decide) ?_
        refine ap_iadd dL_law_1017 ?_
        obtain ⟨a254, ha254, h⟩ := Option.bind_eq_some_iff.mp h
        refine ap_sld rfl ha254 dL_law_1018 ?_
        obtain ⟨a255, m256, ha255, h⟩ := ob2_iff h
        refine ap_callV (k := 0) (As := [.int a254]) (st := []) (st1 := [.int a255]) (mcX11_burn  ha255) cv_L_119 rfl ly_0 ⟨rfl, rfl, by decide, by decide⟩ rfl (Nat.le_of_ble_eq_true rfl) ⟨by decide, by decide⟩ dL_law_1019 rfl rfl ?_
        refine ap_aload_n dL_law_1022 2 rfl rfl ?_
        refine ap_aload_n dL_law_1023 0 rfl rfl ?_
        refine ap_iload_n dL_law_1024 3 rfl rfl ?_
        refine ap_iconst (v := 1) dL_law_1025 (by decide) ?_
        refine ap_iadd dL_law_1026 ?_
        obtain ⟨a257, ha257, h⟩ := Option.bind_eq_some_iff.mp h
        refine ap_sld rfl ha257 dL_law_1027 ?_
        obtain ⟨a258, m259, ha258, h⟩ := ob2_iff h
        refine ap_callV (k := 77) (As := [.int a257]) (st := [.int a255]) (st1 := [.int a258, .int a255]) (mcX12_burn  ha258) cv_L_122 rfl ly_77 ⟨rfl, rfl, by decide, by decide⟩ rfl (Nat.le_of_ble_eq_true rfl) ⟨by decide, by decide⟩ dL_law_1028 rfl rfl ?_
        refine ap_icmp_eq (tgt := 1295) dL_law_1031 (by decide) (fun hc260 => ?_) (fun hc260 => ?_)
        · rw [if_pos hc260] at h
          refine ap_iinc (v := x3 + 6) (lv' := [(3, .int (x3 + 6)), (0, .ref b), (1, .ref (K.1 0)), (2, .ref (K.1 77))]) dL_law_1295 3 rfl rfl (by decide) rfl ?_
          refine ap_goto (tgt := 18) dL_law_1298 (by decide) ?_
          refine ap_sub [1, 2, 3, 0] rfl ?_
          exact ih _ _ h
        · rw [if_neg hc260] at h
          refine ap_iconst (v := 0) dL_law_1034 (by decide) ?_
          exact absurd h (by decide)
      rw [if_neg hc253] at h
      by_cases hc261 : (a2 &&& (63 : Int32)) = (26 : Int32)
      · rw [if_pos hc261] at h
        refine ap_tabIn (off := 1003) (tgt := 1036) dL_law_33 (by rw [hc261]; decide) (by rw [hc261]; decide) (by rw [hc261]; rfl) (by decide) ?_
        refine ap_aload_n dL_law_1036 1 rfl rfl ?_
        refine ap_aload_n dL_law_1037 0 rfl rfl ?_
        refine ap_iload_n dL_law_1038 3 rfl rfl ?_
        refine ap_iconst (v := 1) dL_law_1039 (by decide) ?_
        refine ap_iadd dL_law_1040 ?_
        obtain ⟨a262, ha262, h⟩ := Option.bind_eq_some_iff.mp h
        refine ap_sld rfl ha262 dL_law_1041 ?_
        obtain ⟨a263, m264, ha263, h⟩ := ob2_iff h
        refine ap_callV (k := 0) (As := [.int a262]) (st := []) (st1 := [.int a263]) (mcX11_measure  ha263) cv_L_123 rfl ly_0 ⟨rfl, rfl, by decide, by decide⟩ rfl (Nat.le_of_ble_eq_true rfl) ⟨by decide, by decide⟩ dL_law_1042 rfl rfl ?_
        refine ap_aload_n dL_law_1045 2 rfl rfl ?_
        refine ap_aload_n dL_law_1046 0 rfl rfl ?_
        refine ap_iload_n dL_law_1047 3 rfl rfl ?_
        refine ap_iconst (v := 1) dL_law_1048 (by decide) ?_
        refine ap_iadd dL_law_1049 ?_
        obtain ⟨a265, ha265, h⟩ := Option.bind_eq_some_iff.mp h
        refine ap_sld rfl ha265 dL_law_1050 ?_
        obtain ⟨a266, m267, ha266, h⟩ := ob2_iff h
        refine ap_callV (k := 77) (As := [.int a265]) (st := [.int a263]) (st1 := [.int a266, .int a263]) (mcX12_measure  ha266) cv_L_126 rfl ly_77 ⟨rfl, rfl, by decide, by decide⟩ rfl (Nat.le_of_ble_eq_true rfl) ⟨by decide, by decide⟩ dL_law_1051 rfl rfl ?_
        refine ap_icmp_eq (tgt := 1295) dL_law_1054 (by decide) (fun hc268 => ?_) (fun hc268 => ?_)
        · rw [if_pos hc268] at h
          refine ap_iinc (v := x3 + 6) (lv' := [(3, .int (x3 + 6)), (0, .ref b), (1, .ref (K.1 0)), (2, .ref (K.1 77))]) dL_law_1295 3 rfl rfl (by decide) rfl ?_
          refine ap_goto (tgt := 18) dL_law_1298 (by decide) ?_
          refine ap_sub [1, 2, 3, 0] rfl ?_
          exact ih _ _ h
        · rw [if_neg hc268] at h
          refine ap_iconst (v := 0) dL_law_1057 (by decide) ?_
          exact absurd h (by decide)
      rw [if_neg hc261] at h
      by_cases hc269 : (a2 &&& (63 : Int32)) = (27 : Int32)
      · rw [if_pos hc269] at h
        refine ap_tabIn (off := 1026) (tgt := 1059) dL_law_33 (by rw [hc269]; decide) (by rw [hc269]; decide) (by rw [hc269]; rfl) (by decide) ?_
        refine ap_aload_n dL_law_1059 1 rfl rfl ?_
        refine ap_aload_n dL_law_1060 0 rfl rfl ?_
        refine ap_iload_n dL_law_1061 3 rfl rfl ?_
        refine ap_iconst (v := 1) dL_law_1062 (by decide) ?_
        refine ap_iadd dL_law_1063 ?_
        obtain ⟨a270, ha270, h⟩ := Option.bind_eq_some_iff.mp h
        refine ap_sld rfl ha270 dL_law_1064 ?_
        refine ap_aload_n dL_law_1065 0 rfl rfl ?_
        refine ap_iload_n dL_law_1066 3 rfl rfl ?_
        refine ap_iconst (v := 2) dL_law_1067 (by decide) ?_
        refine ap_iadd dL_law_1068 ?_
        obtain ⟨a271, ha271, h⟩ := Option.bind_eq_some_iff.mp h
        refine ap_sld rfl ha271 dL_law_1069 ?_
        refine ap_aload_n dL_law_1070 0 rfl rfl ?_
        refine ap_iload_n dL_law_1071 3 rfl rfl ?_
        refine ap_iconst (v := 3) dL_law_1072 (by decide) ?_
        refine ap_iadd dL_law_1073 ?_
        obtain ⟨a272, ha272, h⟩ := Option.bind_eq_some_iff.mp h
        refine ap_sld rfl ha272 dL_law_1074 ?_
        refine ap_aload_n dL_law_1075 0 rfl rfl ?_
        refine ap_iload_n dL_law_1076 3 rfl rfl ?_
        refine ap_iconst (v := 4) dL_law_1077 (by decide) ?_
        refine ap_iadd dL_law_1078 ?_
        obtain ⟨a273, ha273, h⟩ := Option.bind_eq_some_iff.mp h
        refine ap_sld rfl ha273 dL_law_1079 ?_
        obtain ⟨a274, m275, ha274, h⟩ := ob2_iff h
        refine ap_callV (k := 0) (As := [.int a270, .int a271, .int a272, .int a273]) (st := []) (st1 := [.int a274]) (mcX11_draught  ha274) cv_L_127 rfl ly_0 ⟨rfl, rfl, by decide, by decide⟩ rfl (Nat.le_of_ble_eq_true rfl) ⟨by decide, by decide⟩ dL_law_1080 rfl rfl ?_
        refine ap_aload_n dL_law_1083 2 rfl rfl ?_
        refine ap_aload_n dL_law_1084 0 rfl rfl ?_
        refine ap_iload_n dL_law_1085 3 rfl rfl ?_
        refine ap_iconst (v := 1) dL_law_1086 (by decide) ?_
        refine ap_iadd dL_law_1087 ?_
        obtain ⟨a276, ha276, h⟩ := Option.bind_eq_some_iff.mp h
        refine ap_sld rfl ha276 dL_law_1088 ?_
        refine ap_aload_n dL_law_1089 0 rfl rfl ?_
        refine ap_iload_n dL_law_1090 3 rfl rfl ?_
        refine ap_iconst (v := 2) dL_law_1091 (by decide) ?_
        refine ap_iadd dL_law_1092 ?_
        obtain ⟨a277, ha277, h⟩ := Option.bind_eq_some_iff.mp h
        refine ap_sld rfl ha277 dL_law_1093 ?_
        refine ap_aload_n dL_law_1094 0 rfl rfl ?_
        refine ap_iload_n dL_law_1095 3 rfl rfl ?_
        refine ap_iconst (v := 3) dL_law_1096 (by decide) ?_
        refine ap_iadd dL_law_1097 ?_
        obtain ⟨a278, ha278, h⟩ := Option.bind_eq_some_iff.mp h
        refine ap_sld rfl ha278 dL_law_1098 ?_
        refine ap_aload_n dL_law_1099 0 rfl rfl ?_
        refine ap_iload_n dL_law_1100 3 rfl rfl ?_
        refine ap_iconst (v := 4) dL_law_1101 (by decide) ?_
        refine ap_iadd dL_law_1102 ?_
        obtain ⟨a279, ha279, h⟩ := Option.bind_eq_some_iff.mp h
        refine ap_sld rfl ha279 dL_law_1103 ?_
        obtain ⟨a280, m281, ha280, h⟩ := ob2_iff h
        refine ap_callV (k := 77) (As := [.int a276, .int a277, .int a278, .int a279]) (st := [.int a274]) (st1 := [.int a280, .int a274]) (mcX12_draught  ha280) cv_L_130 rfl ly_77 ⟨rfl, rfl, by decide, by decide⟩ rfl (Nat.le_of_ble_eq_true rfl) ⟨by decide, by decide⟩ dL_law_1104 rfl rfl ?_
        refine ap_icmp_eq (tgt := 1295) dL_law_1107 (by decide) (fun hc282 => ?_) (fun hc282 => ?_)
        · rw [if_pos hc282] at h
          refine ap_iinc (v := x3 + 6) (lv' := [(3, .int (x3 + 6)), (0, .ref b), (1, .ref (K.1 0)), (2, .ref (K.1 77))]) dL_law_1295 3 rfl rfl (by decide) rfl ?_
          refine ap_goto (tgt := 18) dL_law_1298 (by decide) ?_
          refine ap_sub [1, 2, 3, 0] rfl ?_
          exact ih _ _ h
        · rw [if_neg hc282] at h
          refine ap_iconst (v := 0) dL_law_1110 (by decide) ?_
          exact absurd h (by decide)
      rw [if_neg hc269] at h
      by_cases hc283 : (a2 &&& (63 : Int32)) = (28 : Int32)
      · rw [if_pos hc283] at h
        refine ap_tabIn (off := 1079) (tgt := 1112) dL_law_33 (by rw [hc283]; decide) (by rw [hc283]; decide) (by rw [hc283]; rfl) (by decide) ?_
        refine ap_aload_n dL_law_1112 1 rfl rfl ?_
        refine ap_aload_n dL_law_1113 0 rfl rfl ?_
        refine ap_iload_n dL_law_1114 3 rfl rfl ?_
        refine ap_iconst (v := 1) dL_law_1115 (by decide) ?_
        refine ap_iadd dL_law_1116 ?_
        obtain ⟨a284, ha284, h⟩ := Option.bind_eq_some_iff.mp h
        refine ap_sld rfl ha284 dL_law_1117 ?_
        refine ap_aload_n dL_law_1118 0 rfl rfl ?_
        refine ap_iload_n dL_law_1119 3 rfl rfl ?_
        refine ap_iconst (v := 2) dL_law_1120 (by decide) ?_
        refine ap_iadd dL_law_1121 ?_
        obtain ⟨a285, ha285, h⟩ := Option.bind_eq_some_iff.mp h
        refine ap_sld rfl ha285 dL_law_1122 ?_
        refine ap_aload_n dL_law_1123 0 rfl rfl ?_
        refine ap_iload_n dL_law_1124 3 rfl rfl ?_
        refine ap_iconst (v := 3) dL_law_1125 (by decide) ?_
        refine ap_iadd dL_law_1126 ?_
        obtain ⟨a286, ha286, h⟩ := Option.bind_eq_some_iff.mp h
        refine ap_sld rfl ha286 dL_law_1127 ?_
        refine ap_aload_n dL_law_1128 0 rfl rfl ?_
        refine ap_iload_n dL_law_1129 3 rfl rfl ?_
        refine ap_iconst (v := 4) dL_law_1130 (by decide) ?_
        refine ap_iadd dL_law_1131 ?_
        obtain ⟨a287, ha287, h⟩ := Option.bind_eq_some_iff.mp h
        refine ap_sld rfl ha287 dL_law_1132 ?_
        obtain ⟨a288, m289, ha288, h⟩ := ob2_iff h
        refine ap_callV (k := 0) (As := [.int a284, .int a285, .int a286, .int a287]) (st := []) (st1 := [.int a288]) (mcX11_nights  ha288) cv_L_131 rfl ly_0 ⟨rfl, rfl, by decide, by decide⟩ rfl (Nat.le_of_ble_eq_true rfl) ⟨by decide, by decide⟩ dL_law_1133 rfl rfl ?_
        refine ap_aload_n dL_law_1136 2 rfl rfl ?_
        refine ap_aload_n dL_law_1137 0 rfl rfl ?_
        refine ap_iload_n dL_law_1138 3 rfl rfl ?_
        refine ap_iconst (v := 1) dL_law_1139 (by decide) ?_
        refine ap_iadd dL_law_1140 ?_
        obtain ⟨a290, ha290, h⟩ := Option.bind_eq_some_iff.mp h
        refine ap_sld rfl ha290 dL_law_1141 ?_
        refine ap_aload_n dL_law_1142 0 rfl rfl ?_
        refine ap_iload_n dL_law_1143 3 rfl rfl ?_
        refine ap_iconst (v := 2) dL_law_1144 (by decide) ?_
        refine ap_iadd dL_law_1145 ?_
        obtain ⟨a291, ha291, h⟩ := Option.bind_eq_some_iff.mp h
        refine ap_sld rfl ha291 dL_law_1146 ?_
        refine ap_aload_n dL_law_1147 0 rfl rfl ?_
        refine ap_iload_n dL_law_1148 3 rfl rfl ?_
        refine ap_iconst (v := 3) dL_law_1149 (by decide) ?_
        refine ap_iadd dL_law_1150 ?_
        obtain ⟨a292, ha292, h⟩ := Option.bind_eq_some_iff.mp h
        refine ap_sld rfl ha292 dL_law_1151 ?_
        refine ap_aload_n dL_law_1152 0 rfl rfl ?_
        refine ap_iload_n dL_law_1153 3 rfl rfl ?_
        refine ap_iconst (v := 4) dL_law_1154 (by decide) ?_
        refine ap_iadd dL_law_1155 ?_
        obtain ⟨a293, ha293, h⟩ := Option.bind_eq_some_iff.mp h
        refine ap_sld rfl ha293 dL_law_1156 ?_
        obtain ⟨a294, m295, ha294, h⟩ := ob2_iff h
        refine ap_callV (k := 77) (As := [.int a290, .int a291, .int a292, .int a293]) (st := [.int a288]) (st1 := [.int a294, .int a288]) (mcX12_nights  ha294) cv_L_134 rfl ly_77 ⟨rfl, rfl, by decide, by decide⟩ rfl (Nat.le_of_ble_eq_true rfl) ⟨by decide, by decide⟩ dL_law_1157 rfl rfl ?_
        refine ap_icmp_eq (tgt := 1295) dL_law_1160 (by decide) (fun hc296 => ?_) (fun hc296 => ?_)
        · rw [if_pos hc296] at h
          refine ap_iinc (v := x3 + 6) (lv' := [(3, .int (x3 + 6)), (0, .ref b), (1, .ref (K.1 0)), (2, .ref (K.1 77))]) dL_law_1295 3 rfl rfl (by decide) rfl ?_
          refine ap_goto (tgt := 18) dL_law_1298 (by decide) ?_
          refine ap_sub [1, 2, 3, 0] rfl ?_
          exact ih _ _ h
        · rw [if_neg hc296] at h
          refine ap_iconst (v := 0) dL_law_1163 (by decide) ?_
          exact absurd h (by decide)
      rw [if_neg hc283] at h
      by_cases hc297 : (a2 &&& (63 : Int32)) = (29 : Int32)
      · rw [if_pos hc297] at h
        refine ap_tabIn (off := 1132) (tgt := 1165) dL_law_33 (by rw [hc297]; decide) (by rw [hc297]; decide) (by rw [hc297]; rfl) (by decide) ?_
        refine ap_aload_n dL_law_1165 1 rfl rfl ?_
        refine ap_aload_n dL_law_1166 0 rfl rfl ?_
        refine ap_iload_n dL_law_1167 3 rfl rfl ?_
        refine ap_iconst (v := 1) dL_law_1168 (by decide) ?_
        refine ap_iadd dL_law_1169 ?_
        obtain ⟨a298, ha298, h⟩ := Option.bind_eq_some_iff.mp h
        refine ap_sld rfl ha298 dL_law_1170 ?_
        obtain ⟨a299, m300, ha299, h⟩ := ob2_iff h
        refine ap_callV (k := 0) (As := [.int a298]) (st := []) (st1 := [.long a299]) (mcX11_part  (Option.some.inj ha299)) cv_L_135 rfl ly_0 ⟨rfl, rfl, by decide, by decide⟩ rfl (Nat.le_of_ble_eq_true rfl) ⟨by decide, by decide⟩ dL_law_1171 rfl rfl ?_
        refine ap_aload_n dL_law_1174 2 rfl rfl ?_
        refine ap_aload_n dL_law_1175 0 rfl rfl ?_
        refine ap_iload_n dL_law_1176 3 rfl rfl ?_
        refine ap_iconst (v := 1) dL_law_1177 (by decide) ?_
        refine ap_iadd dL_law_1178 ?_
        obtain ⟨a301, ha301, h⟩ := Option.bind_eq_some_iff.mp h
        refine ap_sld rfl ha301 dL_law_1179 ?_
        obtain ⟨a302, m303, ha302, h⟩ := ob2_iff h
        refine ap_callV (k := 77) (As := [.int a301]) (st := [.long a299]) (st1 := [.long a302, .long a299]) (mcX12_part  (Option.some.inj ha302)) cv_L_139 rfl ly_77 ⟨rfl, rfl, by decide, by decide⟩ rfl (Nat.le_of_ble_eq_true rfl) ⟨by decide, by decide⟩ dL_law_1180 rfl rfl ?_
        refine ap_lcmp dL_law_1183 ?_
        refine ap_if_eq (tgt := 1295) dL_law_1184 (by decide) (fun hc304 => ?_) (fun hc304 => ?_)
        · rw [if_pos hc304] at h
          refine ap_iinc (v := x3 + 6) (lv' := [(3, .int (x3 + 6)), (0, .ref b), (1, .ref (K.1 0)), (2, .ref (K.1 77))]) dL_law_1295 3 rfl rfl (by decide) rfl ?_
          refine ap_goto (tgt := 18) dL_law_1298 (by decide) ?_
          refine ap_sub [1, 2, 3, 0] rfl ?_
          exact ih _ _ h
        · rw [if_neg hc304] at h
          refine ap_iconst (v := 0) dL_law_1187 (by decide) ?_
          exact absurd h (by decide)
      rw [if_neg hc297] at h
      by_cases hc305 : (a2 &&& (63 : Int32)) = (30 : Int32)
      · rw [if_pos hc305] at h
        refine ap_tabIn (off := 1156) (tgt := 1189) dL_law_33 (by rw [hc305]; decide) (by rw [hc305]; decide) (by rw [hc305]; rfl) (by decide) ?_
        refine ap_aload_n dL_law_1189 1 rfl rfl ?_
        refine ap_aload_n dL_law_1190 0 rfl rfl ?_
        refine ap_iload_n dL_law_1191 3 rfl rfl ?_
        refine ap_iconst (v := 1) dL_law_1192 (by decide) ?_
        refine ap_iadd dL_law_1193 ?_
        obtain ⟨a306, ha306, h⟩ := Option.bind_eq_some_iff.mp h
        refine ap_sld rfl ha306 dL_law_1194 ?_
        obtain ⟨a307, m308, ha307, h⟩ := ob2_iff h
        refine ap_callV (k := 0) (As := [.int a306]) (st := []) (st1 := [.int a307]) (mcX11_image  ha307) cv_L_140 rfl ly_0 ⟨rfl, rfl, by decide, by decide⟩ rfl (Nat.le_of_ble_eq_true rfl) ⟨by decide, by decide⟩ dL_law_1195 rfl rfl ?_
        refine ap_aload_n dL_law_1198 2 rfl rfl ?_
        refine ap_aload_n dL_law_1199 0 rfl rfl ?_
        refine ap_iload_n dL_law_1200 3 rfl rfl ?_
        refine ap_iconst (v := 1) dL_law_1201 (by decide) ?_
        refine ap_iadd dL_law_1202 ?_
        obtain ⟨a309, ha309, h⟩ := Option.bind_eq_some_iff.mp h
        refine ap_sld rfl ha309 dL_law_1203 ?_
        obtain ⟨a310, m311, ha310, h⟩ := ob2_iff h
        refine ap_callV (k := 77) (As := [.int a309]) (st := [.int a307]) (st1 := [.int a310, .int a307]) (mcX12_image  ha310) cv_L_143 rfl ly_77 ⟨rfl, rfl, by decide, by decide⟩ rfl (Nat.le_of_ble_eq_true rfl) ⟨by decide, by decide⟩ dL_law_1204 rfl rfl ?_
        refine ap_icmp_eq (tgt := 1295) dL_law_1207 (by decide) (fun hc312 => ?_) (fun hc312 => ?_)
        · rw [if_pos hc312] at h
          refine ap_iinc (v := x3 + 6) (lv' := [(3, .int (x3 + 6)), (0, .ref b), (1, .ref (K.1 0)), (2, .ref (K.1 77))]) dL_law_1295 3 rfl rfl (by decide) rfl ?_
          refine ap_goto (tgt := 18) dL_law_1298 (by decide) ?_
          refine ap_sub [1, 2, 3, 0] rfl ?_
          exact ih _ _ h
        · rw [if_neg hc312] at h
          refine ap_iconst (v := 0) dL_law_1210 (by decide) ?_
          exact absurd h (by decide)
      rw [if_neg hc305] at h
      by_cases hc313 : (a2 &&& (63 : Int32)) = (31 : Int32)
      · rw [if_pos hc313] at h
        refine ap_tabIn (off := 1179) (tgt := 1212) dL_law_33 (by rw [hc313]; decide) (by rw [hc313]; decide) (by rw [hc313]; rfl) (by decide) ?_
        refine ap_aload_n dL_law_1212 1 rfl rfl ?_
        refine ap_aload_n dL_law_1213 0 rfl rfl ?_
        refine ap_iload_n dL_law_1214 3 rfl rfl ?_
        refine ap_iconst (v := 1) dL_law_1215 (by decide) ?_
        refine ap_iadd dL_law_1216 ?_
        obtain ⟨a314, ha314, h⟩ := Option.bind_eq_some_iff.mp h
        refine ap_sld rfl ha314 dL_law_1217 ?_
        obtain ⟨a315, m316, ha315, h⟩ := ob2_iff h
        refine ap_callV (k := 0) (As := [.int a314]) (st := []) (st1 := [.int a315]) (mcX11_from  ha315) cv_L_144 rfl ly_0 ⟨rfl, rfl, by decide, by decide⟩ rfl (Nat.le_of_ble_eq_true rfl) ⟨by decide, by decide⟩ dL_law_1218 rfl rfl ?_
        refine ap_aload_n dL_law_1221 2 rfl rfl ?_
        refine ap_aload_n dL_law_1222 0 rfl rfl ?_
        refine ap_iload_n dL_law_1223 3 rfl rfl ?_
        refine ap_iconst (v := 1) dL_law_1224 (by decide) ?_
        refine ap_iadd dL_law_1225 ?_
        obtain ⟨a317, ha317, h⟩ := Option.bind_eq_some_iff.mp h
        refine ap_sld rfl ha317 dL_law_1226 ?_
        obtain ⟨a318, m319, ha318, h⟩ := ob2_iff h
        refine ap_callV (k := 77) (As := [.int a317]) (st := [.int a315]) (st1 := [.int a318, .int a315]) (mcX12_from  ha318) cv_L_147 rfl ly_77 ⟨rfl, rfl, by decide, by decide⟩ rfl (Nat.le_of_ble_eq_true rfl) ⟨by decide, by decide⟩ dL_law_1227 rfl rfl ?_
        refine ap_icmp_eq (tgt := 1295) dL_law_1230 (by decide) (fun hc320 => ?_) (fun hc320 => ?_)
        · rw [if_pos hc320] at h
          refine ap_iinc (v := x3 + 6) (lv' := [(3, .int (x3 + 6)), (0, .ref b), (1, .ref (K.1 0)), (2, .ref (K.1 77))]) dL_law_1295 3 rfl rfl (by decide) rfl ?_
          refine ap_goto (tgt := 18) dL_law_1298 (by decide) ?_
          refine ap_sub [1, 2, 3, 0] rfl ?_
          exact ih _ _ h
        · rw [if_neg hc320] at h
          refine ap_iconst (v := 0) dL_law_1233 (by decide) ?_
          exact absurd h (by decide)
      rw [if_neg hc313] at h
      by_cases hc321 : (a2 &&& (63 : Int32)) = (32 : Int32)
      · rw [if_pos hc321] at h
        refine ap_tabIn (off := 1202) (tgt := 1235) dL_law_33 (by rw [hc321]; decide) (by rw [hc321]; decide) (by rw [hc321]; rfl) (by decide) ?_
        refine ap_aload_n dL_law_1235 1 rfl rfl ?_
        refine ap_aload_n dL_law_1236 0 rfl rfl ?_
        refine ap_iload_n dL_law_1237 3 rfl rfl ?_
        refine ap_iconst (v := 1) dL_law_1238 (by decide) ?_
        refine ap_iadd dL_law_1239 ?_
        obtain ⟨a322, ha322, h⟩ := Option.bind_eq_some_iff.mp h
        refine ap_sld rfl ha322 dL_law_1240 ?_
        obtain ⟨a323, m324, ha323, h⟩ := ob2_iff h
        refine ap_callV (k := 0) (As := [.int a322]) (st := []) (st1 := [.int a323]) (mcX11_status  (Option.some.inj ha323)) cv_L_148 rfl ly_0 ⟨rfl, rfl, by decide, by decide⟩ rfl (Nat.le_of_ble_eq_true rfl) ⟨by decide, by decide⟩ dL_law_1241 rfl rfl ?_
        refine ap_aload_n dL_law_1244 2 rfl rfl ?_
        refine ap_aload_n dL_law_1245 0 rfl rfl ?_
        refine ap_iload_n dL_law_1246 3 rfl rfl ?_
        refine ap_iconst (v := 1) dL_law_1247 (by decide) ?_
        refine ap_iadd dL_law_1248 ?_
        obtain ⟨a325, ha325, h⟩ := Option.bind_eq_some_iff.mp h
        refine ap_sld rfl ha325 dL_law_1249 ?_
        obtain ⟨a326, m327, ha326, h⟩ := ob2_iff h
        refine ap_callV (k := 77) (As := [.int a325]) (st := [.int a323]) (st1 := [.int a326, .int a323]) (mcX12_status  ha326) cv_L_151 rfl ly_77 ⟨rfl, rfl, by decide, by decide⟩ rfl (Nat.le_of_ble_eq_true rfl) ⟨by decide, by decide⟩ dL_law_1250 rfl rfl ?_
        refine ap_icmp_eq (tgt := 1295) dL_law_1253 (by decide) (fun hc328 => ?_) (fun hc328 => ?_)
        · rw [if_pos hc328] at h
          refine ap_iinc (v := x3 + 6) (lv' := [(3, .int (x3 + 6)), (0, .ref b), (1, .ref (K.1 0)), (2, .ref (K.1 77))]) dL_law_1295 3 rfl rfl (by decide) rfl ?_
          refine ap_goto (tgt := 18) dL_law_1298 (by decide) ?_
          refine ap_sub [1, 2, 3, 0] rfl ?_
          exact ih _ _ h
        · rw [if_neg hc328] at h
          refine ap_iconst (v := 0) dL_law_1256 (by decide) ?_
          exact absurd h (by decide)
      rw [if_neg hc321] at h
      by_cases hc329 : (a2 &&& (63 : Int32)) = (33 : Int32)
      · rw [if_pos hc329] at h
        refine ap_tabIn (off := 1225) (tgt := 1258) dL_law_33 (by rw [hc329]; decide) (by rw [hc329]; decide) (by rw [hc329]; rfl) (by decide) ?_
        refine ap_aload_n dL_law_1258 1 rfl rfl ?_
        refine ap_aload_n dL_law_1259 0 rfl rfl ?_
        refine ap_iload_n dL_law_1260 3 rfl rfl ?_
        refine ap_iconst (v := 1) dL_law_1261 (by decide) ?_
        refine ap_iadd dL_law_1262 ?_
        obtain ⟨a330, ha330, h⟩ := Option.bind_eq_some_iff.mp h
        refine ap_sld rfl ha330 dL_law_1263 ?_
        obtain ⟨a331, m332, ha331, h⟩ := ob2_iff h
        refine ap_callV (k := 0) (As := [.int a330]) (st := []) (st1 := [.int a331]) (mcX11_count  (Option.some.inj ha331)) cv_L_152 rfl ly_0 ⟨rfl, rfl, by decide, by decide⟩ rfl (Nat.le_of_ble_eq_true rfl) ⟨by decide, by decide⟩ dL_law_1264 rfl rfl ?_
        refine ap_aload_n dL_law_1267 2 rfl rfl ?_
        refine ap_aload_n dL_law_1268 0 rfl rfl ?_
        refine ap_iload_n dL_law_1269 3 rfl rfl ?_
        refine ap_iconst (v := 1) dL_law_1270 (by decide) ?_
        refine ap_iadd dL_law_1271 ?_
        obtain ⟨a333, ha333, h⟩ := Option.bind_eq_some_iff.mp h
        refine ap_sld rfl ha333 dL_law_1272 ?_
        obtain ⟨a334, m335, ha334, h⟩ := ob2_iff h
        refine ap_callV (k := 77) (As := [.int a333]) (st := [.int a331]) (st1 := [.int a334, .int a331]) (mcX12_count  ha334) cv_L_155 rfl ly_77 ⟨rfl, rfl, by decide, by decide⟩ rfl (Nat.le_of_ble_eq_true rfl) ⟨by decide, by decide⟩ dL_law_1273 rfl rfl ?_
        refine ap_icmp_eq (tgt := 1295) dL_law_1276 (by decide) (fun hc336 => ?_) (fun hc336 => ?_)
        · rw [if_pos hc336] at h
          refine ap_iinc (v := x3 + 6) (lv' := [(3, .int (x3 + 6)), (0, .ref b), (1, .ref (K.1 0)), (2, .ref (K.1 77))]) dL_law_1295 3 rfl rfl (by decide) rfl ?_
          refine ap_goto (tgt := 18) dL_law_1298 (by decide) ?_
          refine ap_sub [1, 2, 3, 0] rfl ?_
          exact ih _ _ h
        · rw [if_neg hc336] at h
          refine ap_iconst (v := 0) dL_law_1279 (by decide) ?_
          exact absurd h (by decide)
      rw [if_neg hc329] at h
      by_cases hc337 : (a2 &&& (63 : Int32)) = (34 : Int32)
      · rw [if_pos hc337] at h
        refine ap_tabIn (off := 1248) (tgt := 1281) dL_law_33 (by rw [hc337]; decide) (by rw [hc337]; decide) (by rw [hc337]; rfl) (by decide) ?_
        refine ap_aload_n dL_law_1281 1 rfl rfl ?_
        obtain ⟨a338, ha338, h⟩ := Option.bind_eq_some_iff.mp h
        refine ap_callV (k := 0) (As := []) (st := []) (st1 := [.long a338]) (mcX11_digest  (w := w) ha338) cv_L_156 rfl ly_0 ⟨rfl, rfl, by decide, by decide⟩ rfl (Nat.le_of_ble_eq_true rfl) ⟨by decide, by decide⟩ dL_law_1282 rfl rfl ?_
        refine ap_aload_n dL_law_1285 2 rfl rfl ?_
        obtain ⟨a339, ha339, h⟩ := Option.bind_eq_some_iff.mp h
        refine ap_callV (k := 77) (As := []) (st := [.long a338]) (st1 := [.long a339, .long a338]) (mcX12_digest  (w := w) ha339) cv_L_160 rfl ly_77 ⟨rfl, rfl, by decide, by decide⟩ rfl (Nat.le_of_ble_eq_true rfl) ⟨by decide, by decide⟩ dL_law_1286 rfl rfl ?_
        refine ap_lcmp dL_law_1289 ?_
        refine ap_if_eq (tgt := 1295) dL_law_1290 (by decide) (fun hc340 => ?_) (fun hc340 => ?_)
        · rw [if_pos hc340] at h
          refine ap_iinc (v := x3 + 6) (lv' := [(3, .int (x3 + 6)), (0, .ref b), (1, .ref (K.1 0)), (2, .ref (K.1 77))]) dL_law_1295 3 rfl rfl (by decide) rfl ?_
          refine ap_goto (tgt := 18) dL_law_1298 (by decide) ?_
          refine ap_sub [1, 2, 3, 0] rfl ?_
          exact ih _ _ h
        · rw [if_neg hc340] at h
          refine ap_iconst (v := 0) dL_law_1293 (by decide) ?_
          exact absurd h (by decide)
      rw [if_neg hc337] at h
      refine ap_tabOut (tgt := 1295) dL_law_33 (ap_out (fun z h1 h2 => by
        have h3 : z = 0 ∨ z = 1 ∨ z = 2 ∨ z = 3 ∨ z = 4 ∨ z = 5 ∨ z = 6 ∨ z = 7 ∨ z = 8 ∨ z = 9 ∨ z = 10 ∨ z = 11 ∨ z = 12 ∨ z = 13 ∨ z = 14 ∨ z = 15 ∨ z = 16 ∨ z = 17 ∨ z = 18 ∨ z = 19 ∨ z = 20 ∨ z = 21 ∨ z = 22 ∨ z = 23 ∨ z = 24 ∨ z = 25 ∨ z = 26 ∨ z = 27 ∨ z = 28 ∨ z = 29 ∨ z = 30 ∨ z = 31 ∨ z = 32 ∨ z = 33 ∨ z = 34 := by omega
        rcases h3 with rfl | rfl | rfl | rfl | rfl | rfl | rfl | rfl | rfl | rfl | rfl | rfl | rfl | rfl | rfl | rfl | rfl | rfl | rfl | rfl | rfl | rfl | rfl | rfl | rfl | rfl | rfl | rfl | rfl | rfl | rfl | rfl | rfl | rfl | rfl
        · exact fun e => hc3 (e.trans (by decide))
        · exact fun e => hc11 (e.trans (by decide))
        · exact fun e => hc19 (e.trans (by decide))
        · exact fun e => hc35 (e.trans (by decide))
        · exact fun e => hc45 (e.trans (by decide))
        · exact fun e => hc55 (e.trans (by decide))
        · exact fun e => hc61 (e.trans (by decide))
        · exact fun e => hc69 (e.trans (by decide))
        · exact fun e => hc75 (e.trans (by decide))
        · exact fun e => hc81 (e.trans (by decide))
        · exact fun e => hc91 (e.trans (by decide))
        · exact fun e => hc103 (e.trans (by decide))
        · exact fun e => hc115 (e.trans (by decide))
        · exact fun e => hc127 (e.trans (by decide))
        · exact fun e => hc137 (e.trans (by decide))
        · exact fun e => hc149 (e.trans (by decide))
        · exact fun e => hc157 (e.trans (by decide))
        · exact fun e => hc163 (e.trans (by decide))
        · exact fun e => hc173 (e.trans (by decide))
        · exact fun e => hc183 (e.trans (by decide))
        · exact fun e => hc193 (e.trans (by decide))
        · exact fun e => hc209 (e.trans (by decide))
        · exact fun e => hc221 (e.trans (by decide))
        · exact fun e => hc235 (e.trans (by decide))
        · exact fun e => hc247 (e.trans (by decide))
        · exact fun e => hc253 (e.trans (by decide))
        · exact fun e => hc261 (e.trans (by decide))
        · exact fun e => hc269 (e.trans (by decide))
        · exact fun e => hc283 (e.trans (by decide))
        · exact fun e => hc297 (e.trans (by decide))
        · exact fun e => hc305 (e.trans (by decide))
        · exact fun e => hc313 (e.trans (by decide))
        · exact fun e => hc321 (e.trans (by decide))
        · exact fun e => hc329 (e.trans (by decide))
        · exact fun e => hc337 (e.trans (by decide)))) (by decide) ?_
      refine ap_iinc (v := x3 + 6) (lv' := [(3, .int (x3 + 6)), (0, .ref b), (1, .ref (K.1 0)), (2, .ref (K.1 77))]) dL_law_1295 3 rfl rfl (by decide) rfl ?_
      refine ap_goto (tgt := 18) dL_law_1298 (by decide) ?_
      refine ap_sub [1, 2, 3, 0] rfl ?_
      exact ih _ _ h
