def B_L_law_18 (Q : Int32 → AH → Prop) (K18 : Int32 → AH → Prop) (v1 : Nat) (v2 : Nat) (v3 : Int32) (h : AH) : Prop :=
  aLX h (fun x1 => (((x1 - (6 : Int32)) < v3 → Q (1 : Int32) h) ∧ (¬ ((x1 - (6 : Int32)) < v3) → lX h v3 (fun x2 => (((x2 &&& (63 : Int32)) = 0 → lX h (v3 + (1 : Int32)) (fun x3 => lX h (v3 + (2 : Int32)) (fun x4 => isO h v1 11 ∧ f_X11_row v1 x3 x4 h (fun x5 h6 => lX h6 (v3 + (1 : Int32)) (fun x7 => lX h6 (v3 + (2 : Int32)) (fun x8 => isO h6 v2 12 ∧ f_X12_row v2 x7 x8 h6 (fun x9 h10 => ((x5 = x9 → K18 (v3 + 6) h10) ∧ (¬ (x5 = x9) → Q (0 : Int32) h10))))))))) ∧ ((x2 &&& (63 : Int32)) = 1 → lX h (v3 + (1 : Int32)) (fun x11 => lX h (v3 + (2 : Int32)) (fun x12 => lX h (v3 + (3 : Int32)) (fun x13 => isO h v1 11 ∧ f_X11_lay v1 x11 x12 x13 h (fun x14 h15 => lX h15 (v3 + (1 : Int32)) (fun x16 => lX h15 (v3 + (2 : Int32)) (fun x17 => lX h15 (v3 + (3 : Int32)) (fun x18 => isO h15 v2 12 ∧ f_X12_lay v2 x16 x17 x18 h15 (fun x19 h20 => ((x14 = x19 → K18 (v3 + 6) h20) ∧ (¬ (x14 = x19) → Q (0 : Int32) h20))))))))))) ∧ ((x2 &&& (63 : Int32)) = 2 → lX h (v3 + (1 : Int32)) (fun x21 => lX h (v3 + (2 : Int32)) (fun x22 => isO h v1 11 ∧ f_X11_at v1 x21 x22 h (fun x23 h24 => lX h24 (v3 + (1 : Int32)) (fun x25 => lX h24 (v3 + (2 : Int32)) (fun x26 => isO h24 v2 12 ∧ f_X12_at v2 x25 x26 h24 (fun x27 h28 => ((x23 = x27 → K18 (v3 + 6) h28) ∧ (¬ (x23 = x27) → Q (0 : Int32) h28))))))))) ∧ ((x2 &&& (63 : Int32)) = 3 → lX h (v3 + (1 : Int32)) (fun x29 => isO h v1 11 ∧ f_X11_tear v1 x29 h (fun x30 h31 => lX h31 (v3 + (1 : Int32)) (fun x32 => isO h31 v2 12 ∧ f_X12_tear v2 x32 h31 (fun x33 h34 => ((x30 = x33 → K18 (v3 + 6) h34) ∧ (¬ (x30 = x33) → Q (0 : Int32) h34))))))) ∧ ((x2 &&& (63 : Int32)) = 4 → lX h (v3 + (1 : Int32)) (fun x35 => lX h (v3 + (2 : Int32)) (fun x36 => lX h (v3 + (3 : Int32)) (fun x37 => lX h (v3 + (4 : Int32)) (fun x38 => lX h (v3 + (5 : Int32)) (fun x39 => isO h v1 11 ∧ f_X11_copy v1 x35 x36 x37 x38 x39 h (fun x40 h41 => lX h41 (v3 + (1 : Int32)) (fun x42 => lX h41 (v3 + (2 : Int32)) (fun x43 => lX h41 (v3 + (3 : Int32)) (fun x44 => lX h41 (v3 + (4 : Int32)) (fun x45 => lX h41 (v3 + (5 : Int32)) (fun x46 => isO h41 v2 12 ∧ f_X12_copy v2 x42 x43 x44 x45 x46 h41 (fun x47 h48 => ((x40 = x47 → K18 (v3 + 6) h48) ∧ (¬ (x40 = x47) → Q (0 : Int32) h48))))))))))))))) ∧ ((x2 &&& (63 : Int32)) = 5 → lX h (v3 + (1 : Int32)) (fun x49 => isO h v1 11 ∧ f_X11_mean v1 x49 h (fun x50 h51 => lX h51 (v3 + (1 : Int32)) (fun x52 => isO h51 v2 12 ∧ f_X12_mean v2 x52 h51 (fun x53 h54 => ((x50 = x53 → K18 (v3 + 6) h54) ∧ (¬ (x50 = x53) → Q (0 : Int32) h54))))))) ∧ ((x2 &&& (63 : Int32)) = 6 → lX h (v3 + (1 : Int32)) (fun x55 => lX h (v3 + (2 : Int32)) (fun x56 => isO h v1 11 ∧ f_X11_text v1 x55 x56 h (fun x57 h58 => lX h58 (v3 + (1 : Int32)) (fun x59 => lX h58 (v3 + (2 : Int32)) (fun x60 => isO h58 v2 12 ∧ f_X12_text v2 x59 x60 h58 (fun x61 h62 => ((x57 = x61 → K18 (v3 + 6) h62) ∧ (¬ (x57 = x61) → Q (0 : Int32) h62))))))))) ∧ ((x2 &&& (63 : Int32)) = 7 → lX h (v3 + (1 : Int32)) (fun x63 => lX h (v3 + (2 : Int32)) (fun x64 => lX h (v3 + (3 : Int32)) (fun x65 => isO h v1 11 ∧ f_X11_put v1 x63 x64 x65 h (fun x66 h67 => lX h67 (v3 + (1 : Int32)) (fun x68 => lX h67 (v3 + (2 : Int32)) (fun x69 => lX h67 (v3 + (3 : Int32)) (fun x70 => isO h67 v2 12 ∧ f_X12_put v2 x68 x69 x70 h67 (fun x71 h72 => ((x66 = x71 → K18 (v3 + 6) h72) ∧ (¬ (x66 = x71) → Q (0 : Int32) h72))))))))))) ∧ ((x2 &&& (63 : Int32)) = 8 → lX h (v3 + (1 : Int32)) (fun x73 => isO h v1 11 ∧ f_X11_fault v1 x73 h (fun x74 h75 => lX h75 (v3 + (1 : Int32)) (fun x76 => isO h75 v2 12 ∧ f_X12_fault v2 x76 h75 (fun x77 h78 => ((x74 = x77 → K18 (v3 + 6) h78) ∧ (¬ (x74 = x77) → Q (0 : Int32) h78))))))) ∧ ((x2 &&& (63 : Int32)) = 9 → lX h (v3 + (1 : Int32)) (fun x79 => isO h v1 11 ∧ f_X11_road v1 x79 h (fun x80 h81 => lX h81 (v3 + (1 : Int32)) (fun x82 => isO h81 v2 12 ∧ f_X12_road v2 x82 h81 (fun x83 h84 => ((x80 = x83 → K18 (v3 + 6) h84) ∧ (¬ (x80 = x83) → Q (0 : Int32) h84))))))) ∧ ((x2 &&& (63 : Int32)) = 10 → lX h (v3 + (1 : Int32)) (fun x85 => lX h (v3 + (2 : Int32)) (fun x86 => isO h v1 11 ∧ f_X11_stone v1 x85 x86 h (fun x87 h88 => lX h88 (v3 + (1 : Int32)) (fun x89 => lX h88 (v3 + (2 : Int32)) (fun x90 => isO h88 v2 12 ∧ f_X12_stone v2 x89 x90 h88 (fun x91 h92 => ((x87 = x91 → K18 (v3 + 6) h92) ∧ (¬ (x87 = x91) → Q (0 : Int32) h92))))))))) ∧ ((x2 &&& (63 : Int32)) = 11 → lX h (v3 + (1 : Int32)) (fun x93 => lX h (v3 + (2 : Int32)) (fun x94 => isO h v1 11 ∧ f_X11_walker v1 x93 x94 h (fun x95 h96 => lX h96 (v3 + (1 : Int32)) (fun x97 => lX h96 (v3 + (2 : Int32)) (fun x98 => isO h96 v2 12 ∧ f_X12_walker v2 x97 x98 h96 (fun x99 h100 => ((x95 = x99 → K18 (v3 + 6) h100) ∧ (¬ (x95 = x99) → Q (0 : Int32) h100))))))))) ∧ ((x2 &&& (63 : Int32)) = 12 → lX h (v3 + (1 : Int32)) (fun x101 => lX h (v3 + (2 : Int32)) (fun x102 => isO h v1 11 ∧ f_X11_mark v1 x101 x102 h (fun x103 h104 => lX h104 (v3 + (1 : Int32)) (fun x105 => lX h104 (v3 + (2 : Int32)) (fun x106 => isO h104 v2 12 ∧ f_X12_mark v2 x105 x106 h104 (fun x107 h108 => ((x103 = x107 → K18 (v3 + 6) h108) ∧ (¬ (x103 = x107) → Q (0 : Int32) h108))))))))) ∧ ((x2 &&& (63 : Int32)) = 13 → lX h (v3 + (1 : Int32)) (fun x109 => isO h v1 11 ∧ f_X11_law v1 x109 h (fun x110 h111 => lX h111 (v3 + (1 : Int32)) (fun x112 => isO h111 v2 12 ∧ f_X12_law v2 x112 h111 (fun x113 h114 => ((x110 = x113 → K18 (v3 + 6) h114) ∧ (¬ (x110 = x113) → Q (0 : Int32) h114))))))) ∧ ((x2 &&& (63 : Int32)) = 14 → lX h (v3 + (1 : Int32)) (fun x115 => isO h v1 11 ∧ f_X11_walk v1 x115 h (fun x116 h117 => lX h117 (v3 + (1 : Int32)) (fun x118 => isO h117 v2 12 ∧ f_X12_walk v2 x118 h117 (fun x119 h120 => ((x116 = x119 → K18 (v3 + 6) h120) ∧ (¬ (x116 = x119) → Q (0 : Int32) h120))))))) ∧ ((x2 &&& (63 : Int32)) = 15 → lX h (v3 + (1 : Int32)) (fun x121 => isO h v1 11 ∧ f_X11_pays v1 x121 h (fun x122 h123 => lX h123 (v3 + (1 : Int32)) (fun x124 => isO h123 v2 12 ∧ f_X12_pays v2 x124 h123 (fun x125 h126 => ((x122 = x125 → K18 (v3 + 6) h126) ∧ (¬ (x122 = x125) → Q (0 : Int32) h126))))))) ∧ ((x2 &&& (63 : Int32)) = 16 → lX h (v3 + (1 : Int32)) (fun x127 => isO h v1 11 ∧ f_X11_undo v1 x127 h (fun x128 h129 => lX h129 (v3 + (1 : Int32)) (fun x130 => isO h129 v2 12 ∧ f_X12_undo v2 x130 h129 (fun x131 h132 => ((x128 = x131 → K18 (v3 + 6) h132) ∧ (¬ (x128 = x131) → Q (0 : Int32) h132))))))) ∧ ((x2 &&& (63 : Int32)) = 17 → lX h (v3 + (1 : Int32)) (fun x133 => isO h v1 11 ∧ f_X11_walks v1 x133 h (fun x134 h135 => lX h135 (v3 + (1 : Int32)) (fun x136 => isO h135 v2 12 ∧ f_X12_walks v2 x136 h135 (fun x137 h138 => ((x134 = x137 → K18 (v3 + 6) h138) ∧ (¬ (x134 = x137) → Q (0 : Int32) h138))))))) ∧ ((x2 &&& (63 : Int32)) = 18 → lX h (v3 + (1 : Int32)) (fun x139 => isO h v1 11 ∧ f_X11_where v1 x139 h (fun x140 h141 => lX h141 (v3 + (1 : Int32)) (fun x142 => isO h141 v2 12 ∧ f_X12_where v2 x142 h141 (fun x143 h144 => ((x140 = x143 → K18 (v3 + 6) h144) ∧ (¬ (x140 = x143) → Q (0 : Int32) h144))))))) ∧ ((x2 &&& (63 : Int32)) = 19 → isO h v1 11 ∧ f_X11_apart v1  h (fun x145 h146 => isO h146 v2 12 ∧ f_X12_apart v2  h146 (fun x147 h148 => ((x145 = x147 → K18 (v3 + 6) h148) ∧ (¬ (x145 = x147) → Q (0 : Int32) h148))))) ∧ ((x2 &&& (63 : Int32)) = 20 → lX h (v3 + (1 : Int32)) (fun x149 => isO h v1 11 ∧ f_X11_keep v1 x149 h (fun x150 h151 => lX h151 (v3 + (1 : Int32)) (fun x152 => isO h151 v2 12 ∧ f_X12_keep v2 x152 h151 (fun x153 h154 => ((x150 = x153 → K18 (v3 + 6) h154) ∧ (¬ (x150 = x153) → Q (0 : Int32) h154))))))) ∧ ((x2 &&& (63 : Int32)) = 21 → lX h (v3 + (1 : Int32)) (fun x155 => isO h v1 11 ∧ f_X11_on v1 x155 h (fun x156 h157 => lX h157 (v3 + (1 : Int32)) (fun x158 => isO h157 v2 12 ∧ f_X12_on v2 x158 h157 (fun x159 h160 => ((x156 = x159 → K18 (v3 + 6) h160) ∧ (¬ (x156 = x159) → Q (0 : Int32) h160))))))) ∧ ((x2 &&& (63 : Int32)) = 22 → lX h (v3 + (1 : Int32)) (fun x161 => isO h v1 11 ∧ f_X11_sees v1 x161 h (fun x162 h163 => lX h163 (v3 + (1 : Int32)) (fun x164 => isO h163 v2 12 ∧ f_X12_sees v2 x164 h163 (fun x165 h166 => ((x162 = x165 → K18 (v3 + 6) h166) ∧ (¬ (x162 = x165) → Q (0 : Int32) h166))))))) ∧ ((x2 &&& (63 : Int32)) = 23 → lX h (v3 + (1 : Int32)) (fun x167 => isO h v1 11 ∧ f_X11_may v1 x167 h (fun x168 h169 => lX h169 (v3 + (1 : Int32)) (fun x170 => isO h169 v2 12 ∧ f_X12_may v2 x170 h169 (fun x171 h172 => ((x168 = x171 → K18 (v3 + 6) h172) ∧ (¬ (x168 = x171) → Q (0 : Int32) h172))))))) ∧ ((x2 &&& (63 : Int32)) = 24 → lX h (v3 + (1 : Int32)) (fun x173 => lX h (v3 + (2 : Int32)) (fun x174 => isO h v1 11 ∧ f_X11_standings v1 x173 x174 h (fun x175 h176 => lX h176 (v3 + (1 : Int32)) (fun x177 => lX h176 (v3 + (2 : Int32)) (fun x178 => isO h176 v2 12 ∧ f_X12_standings v2 x177 x178 h176 (fun x179 h180 => ((x175 = x179 → K18 (v3 + 6) h180) ∧ (¬ (x175 = x179) → Q (0 : Int32) h180))))))))) ∧ ((x2 &&& (63 : Int32)) = 25 → lX h (v3 + (1 : Int32)) (fun x181 => isO h v1 11 ∧ f_X11_look v1 x181 h (fun x182 h183 => lX h183 (v3 + (1 : Int32)) (fun x184 => isO h183 v2 12 ∧ f_X12_look v2 x184 h183 (fun x185 h186 => ((x182 = x185 → K18 (v3 + 6) h186) ∧ (¬ (x182 = x185) → Q (0 : Int32) h186))))))) ∧ ((x2 &&& (63 : Int32)) = 26 → isO h v1 11 ∧ f_X11_fewest v1  h (fun x187 h188 => isO h188 v2 12 ∧ f_X12_fewest v2  h188 (fun x189 h190 => ((x187 = x189 → K18 (v3 + 6) h190) ∧ (¬ (x187 = x189) → Q (0 : Int32) h190))))) ∧ ((x2 &&& (63 : Int32)) = 27 → lX h (v3 + (1 : Int32)) (fun x191 => isO h v1 11 ∧ f_X11_way v1 x191 h (fun x192 h193 => lX h193 (v3 + (1 : Int32)) (fun x194 => isO h193 v2 12 ∧ f_X12_way v2 x194 h193 (fun x195 h196 => ((x192 = x195 → K18 (v3 + 6) h196) ∧ (¬ (x192 = x195) → Q (0 : Int32) h196))))))) ∧ ((x2 &&& (63 : Int32)) = 28 → isO h v1 11 ∧ f_X11_all v1  h (fun x197 h198 => isO h198 v2 12 ∧ f_X12_all v2  h198 (fun x199 h200 => ((x197 = x199 → K18 (v3 + 6) h200) ∧ (¬ (x197 = x199) → Q (0 : Int32) h200))))) ∧ ((x2 &&& (63 : Int32)) = 29 → isO h v1 11 ∧ f_X11_best v1  h (fun x201 h202 => isO h202 v2 12 ∧ f_X12_best v2  h202 (fun x203 h204 => ((x201 = x203 → K18 (v3 + 6) h204) ∧ (¬ (x201 = x203) → Q (0 : Int32) h204))))) ∧ ((x2 &&& (63 : Int32)) = 30 → isO h v1 11 ∧ f_X11_nearest v1  h (fun x205 h206 => isO h206 v2 12 ∧ f_X12_nearest v2  h206 (fun x207 h208 => ((x205 = x207 → K18 (v3 + 6) h208) ∧ (¬ (x205 = x207) → Q (0 : Int32) h208))))) ∧ ((x2 &&& (63 : Int32)) = 31 → lX h (v3 + (1 : Int32)) (fun x209 => lX h (v3 + (2 : Int32)) (fun x210 => isO h v1 11 ∧ f_X11_brings v1 x209 x210 h (fun x211 h212 => lX h212 (v3 + (1 : Int32)) (fun x213 => lX h212 (v3 + (2 : Int32)) (fun x214 => isO h212 v2 12 ∧ f_X12_brings v2 x213 x214 h212 (fun x215 h216 => ((x211 = x215 → K18 (v3 + 6) h216) ∧ (¬ (x211 = x215) → Q (0 : Int32) h216))))))))) ∧ ((x2 &&& (63 : Int32)) = 32 → lX h (v3 + (1 : Int32)) (fun x217 => isO h v1 11 ∧ f_X11_earn v1 x217 h (fun x218 h219 => lX h219 (v3 + (1 : Int32)) (fun x220 => isO h219 v2 12 ∧ f_X12_earn v2 x220 h219 (fun x221 h222 => ((x218 = x221 → K18 (v3 + 6) h222) ∧ (¬ (x218 = x221) → Q (0 : Int32) h222))))))) ∧ ((x2 &&& (63 : Int32)) = 33 → lX h (v3 + (1 : Int32)) (fun x223 => isO h v1 11 ∧ f_X11_moved v1 x223 h (fun x224 h225 => lX h225 (v3 + (1 : Int32)) (fun x226 => isO h225 v2 12 ∧ f_X12_moved v2 x226 h225 (fun x227 h228 => ((x224 = x227 → K18 (v3 + 6) h228) ∧ (¬ (x224 = x227) → Q (0 : Int32) h228))))))) ∧ ((x2 &&& (63 : Int32)) = 34 → lX h (v3 + (1 : Int32)) (fun x229 => isO h v1 11 ∧ f_X11_who v1 x229 h (fun x230 h231 => lX h231 (v3 + (1 : Int32)) (fun x232 => isO h231 v2 12 ∧ f_X12_who v2 x232 h231 (fun x233 h234 => ((x230 = x233 → K18 (v3 + 6) h234) ∧ (¬ (x230 = x233) → Q (0 : Int32) h234))))))) ∧ ((x2 &&& (63 : Int32)) = 35 → lX h (v3 + (1 : Int32)) (fun x235 => lX h (v3 + (2 : Int32)) (fun x236 => lX h (v3 + (3 : Int32)) (fun x237 => isO h v1 11 ∧ f_X11_odds v1 x235 x236 x237 h (fun x238 h239 => lX h239 (v3 + (1 : Int32)) (fun x240 => lX h239 (v3 + (2 : Int32)) (fun x241 => lX h239 (v3 + (3 : Int32)) (fun x242 => isO h239 v2 12 ∧ f_X12_odds v2 x240 x241 x242 h239 (fun x243 h244 => ((x238 = x243 → K18 (v3 + 6) h244) ∧ (¬ (x238 = x243) → Q (0 : Int32) h244))))))))))) ∧ ((x2 &&& (63 : Int32)) = 36 → lX h (v3 + (1 : Int32)) (fun x245 => lX h (v3 + (2 : Int32)) (fun x246 => isO h v1 11 ∧ f_X11_years v1 x245 x246 h (fun x247 h248 => lX h248 (v3 + (1 : Int32)) (fun x249 => lX h248 (v3 + (2 : Int32)) (fun x250 => isO h248 v2 12 ∧ f_X12_years v2 x249 x250 h248 (fun x251 h252 => ((x247 = x251 → K18 (v3 + 6) h252) ∧ (¬ (x247 = x251) → Q (0 : Int32) h252))))))))) ∧ ((x2 &&& (63 : Int32)) = 37 → isO h v1 11 ∧ f_X11_asked v1  h (fun x253 h254 => isO h254 v2 12 ∧ f_X12_asked v2  h254 (fun x255 h256 => ((x253 = x255 → K18 (v3 + 6) h256) ∧ (¬ (x253 = x255) → Q (0 : Int32) h256))))) ∧ ((x2 &&& (63 : Int32)) = 38 → isO h v1 11 ∧ f_X11_upper v1  h (fun x257 h258 => isO h258 v2 12 ∧ f_X12_upper v2  h258 (fun x259 h260 => ((x257 = x259 → K18 (v3 + 6) h260) ∧ (¬ (x257 = x259) → Q (0 : Int32) h260))))) ∧ ((x2 &&& (63 : Int32)) = 39 → isO h v1 11 ∧ f_X11_lower v1  h (fun x261 h262 => isO h262 v2 12 ∧ f_X12_lower v2  h262 (fun x263 h264 => ((x261 = x263 → K18 (v3 + 6) h264) ∧ (¬ (x261 = x263) → Q (0 : Int32) h264))))) ∧ ((x2 &&& (63 : Int32)) = 40 → lX h (v3 + (1 : Int32)) (fun x265 => isO h v1 11 ∧ f_X11_count v1 x265 h (fun x266 h267 => lX h267 (v3 + (1 : Int32)) (fun x268 => isO h267 v2 12 ∧ f_X12_count v2 x268 h267 (fun x269 h270 => ((x266 = x269 → K18 (v3 + 6) h270) ∧ (¬ (x266 = x269) → Q (0 : Int32) h270))))))) ∧ ((x2 &&& (63 : Int32)) = 41 → isO h v1 11 ∧ f_X11_finding v1  h (fun x271 h272 => isO h272 v2 12 ∧ f_X12_finding v2  h272 (fun x273 h274 => ((x271 = x273 → K18 (v3 + 6) h274) ∧ (¬ (x271 = x273) → Q (0 : Int32) h274))))) ∧ ((x2 &&& (63 : Int32)) = 42 → lX h (v3 + (1 : Int32)) (fun x275 => isO h v1 11 ∧ f_X11_findings v1 x275 h (fun x276 h277 => lX h277 (v3 + (1 : Int32)) (fun x278 => isO h277 v2 12 ∧ f_X12_findings v2 x278 h277 (fun x279 h280 => ((x276 = x279 → K18 (v3 + 6) h280) ∧ (¬ (x276 = x279) → Q (0 : Int32) h280))))))) ∧ ((x2 &&& (63 : Int32)) = 43 → isO h v1 11 ∧ f_X11_digest v1  h (fun x281 h282 => isO h282 v2 12 ∧ f_X12_digest v2  h282 (fun x283 h284 => ((x281 = x283 → K18 (v3 + 6) h284) ∧ (¬ (x281 = x283) → Q (0 : Int32) h284))))) ∧ (¬ (x2 &&& (63 : Int32)) = 0 → ¬ (x2 &&& (63 : Int32)) = 1 → ¬ (x2 &&& (63 : Int32)) = 2 → ¬ (x2 &&& (63 : Int32)) = 3 → ¬ (x2 &&& (63 : Int32)) = 4 → ¬ (x2 &&& (63 : Int32)) = 5 → ¬ (x2 &&& (63 : Int32)) = 6 → ¬ (x2 &&& (63 : Int32)) = 7 → ¬ (x2 &&& (63 : Int32)) = 8 → ¬ (x2 &&& (63 : Int32)) = 9 → ¬ (x2 &&& (63 : Int32)) = 10 → ¬ (x2 &&& (63 : Int32)) = 11 → ¬ (x2 &&& (63 : Int32)) = 12 → ¬ (x2 &&& (63 : Int32)) = 13 → ¬ (x2 &&& (63 : Int32)) = 14 → ¬ (x2 &&& (63 : Int32)) = 15 → ¬ (x2 &&& (63 : Int32)) = 16 → ¬ (x2 &&& (63 : Int32)) = 17 → ¬ (x2 &&& (63 : Int32)) = 18 → ¬ (x2 &&& (63 : Int32)) = 19 → ¬ (x2 &&& (63 : Int32)) = 20 → ¬ (x2 &&& (63 : Int32)) = 21 → ¬ (x2 &&& (63 : Int32)) = 22 → ¬ (x2 &&& (63 : Int32)) = 23 → ¬ (x2 &&& (63 : Int32)) = 24 → ¬ (x2 &&& (63 : Int32)) = 25 → ¬ (x2 &&& (63 : Int32)) = 26 → ¬ (x2 &&& (63 : Int32)) = 27 → ¬ (x2 &&& (63 : Int32)) = 28 → ¬ (x2 &&& (63 : Int32)) = 29 → ¬ (x2 &&& (63 : Int32)) = 30 → ¬ (x2 &&& (63 : Int32)) = 31 → ¬ (x2 &&& (63 : Int32)) = 32 → ¬ (x2 &&& (63 : Int32)) = 33 → ¬ (x2 &&& (63 : Int32)) = 34 → ¬ (x2 &&& (63 : Int32)) = 35 → ¬ (x2 &&& (63 : Int32)) = 36 → ¬ (x2 &&& (63 : Int32)) = 37 → ¬ (x2 &&& (63 : Int32)) = 38 → ¬ (x2 &&& (63 : Int32)) = 39 → ¬ (x2 &&& (63 : Int32)) = 40 → ¬ (x2 &&& (63 : Int32)) = 41 → ¬ (x2 &&& (63 : Int32)) = 42 → ¬ (x2 &&& (63 : Int32)) = 43 → K18 (v3 + 6) h))))))
set_option maxRecDepth 100000 in
set_option maxHeartbeats 4000000 in
theorem b_L_law_18 {o : Om} {Q : Int32 → AH → Prop} {K18 : Int32 → AH → Prop} {v1 : Nat} {v2 : Nat} {v3 : Int32} {h : AH} (hK18 : ∀ w3 h, K18 w3 h → AQ o kL_law h 18 [(0, .ref 0), (1, .ref v1), (2, .ref v2), (3, .int w3)] [] (qI Q)) (H : B_L_law_18 Q K18 v1 v2 v3 h) : AQ o kL_law h 18 [(0, .ref 0), (1, .ref v1), (2, .ref v2), (3, .int v3)] [] (qI Q) := by
  refine a_iload_n 3 rfl rfl dL_law_18 ?_
  refine a_aload_n 0 rfl rfl dL_law_19 ?_
  refine r_aLX dL_law_20 H (fun x1 H => ?_)
  refine a_bipush (v := (6 : Int32)) (by decide) dL_law_21 ?_
  refine a_isub dL_law_23 ?_
  refine a_icmp_gt (tgt := 1335) dL_law_24 (by decide) (fun c => ?_) (fun c => ?_)
  · have H := H.1 (c)
    refine a_iconst (v := (1 : Int32)) (by decide) dL_law_1335 ?_
    exact r_retz rfl bl_1 dL_law_1336 H
  · have H := H.2 (c)
    refine a_aload_n 0 rfl rfl dL_law_27 ?_
    refine a_iload_n 3 rfl rfl dL_law_28 ?_
    refine r_lX dL_law_29 H (fun x2 H => ?_)
    refine a_bipush (v := (63 : Int32)) (by decide) dL_law_30 ?_
    refine a_iand dL_law_32 ?_
    by_cases c0 : (x2 &&& (63 : Int32)) = 0
    · have H := H.1 c0
      refine r_tab (off := 191) (tgt := 224) dL_law_33 c0 (by decide) (by decide) rfl (by decide) ?_
      refine a_aload_n 1 rfl rfl dL_law_224 ?_
      refine a_aload_n 0 rfl rfl dL_law_225 ?_
      refine a_iload_n 3 rfl rfl dL_law_226 ?_
      refine a_iconst (v := (1 : Int32)) (by decide) dL_law_227 ?_
      refine a_iadd dL_law_228 ?_
      refine r_lX dL_law_229 H (fun x3 H => ?_)
      refine a_aload_n 0 rfl rfl dL_law_230 ?_
      refine a_iload_n 3 rfl rfl dL_law_231 ?_
      refine a_iconst (v := (2 : Int32)) (by decide) dL_law_232 ?_
      refine a_iadd dL_law_233 ?_
      refine r_lX dL_law_234 H (fun x4 H => ?_)
      refine r_Vi (q := (RX11, TX11, 16)) (av := [.int x3, .int x4]) (rest := []) rfl rfl okX11_row H.1 rfl rfl wd253 wd254 wd255 ⟨Nat.le_of_ble_eq_true rfl, Nat.le_of_ble_eq_true rfl⟩ (Nat.le_of_ble_eq_true rfl) dL_law_235 (s_X11_row H.2) (fun x5 h6 H => ?_)
      refine a_aload_n 2 rfl rfl dL_law_238 ?_
      refine a_aload_n 0 rfl rfl dL_law_239 ?_
      refine a_iload_n 3 rfl rfl dL_law_240 ?_
      refine a_iconst (v := (1 : Int32)) (by decide) dL_law_241 ?_
      refine a_iadd dL_law_242 ?_
      refine r_lX dL_law_243 H (fun x7 H => ?_)
      refine a_aload_n 0 rfl rfl dL_law_244 ?_
      refine a_iload_n 3 rfl rfl dL_law_245 ?_
      refine a_iconst (v := (2 : Int32)) (by decide) dL_law_246 ?_
      refine a_iadd dL_law_247 ?_
      refine r_lX dL_law_248 H (fun x8 H => ?_)
      refine r_Vi (q := (RX12, TX12, 51)) (av := [.int x7, .int x8]) (rest := [.int x5]) rfl rfl okX12_row H.1 rfl rfl wd1180 wd1181 wd1182 ⟨Nat.le_of_ble_eq_true rfl, Nat.le_of_ble_eq_true rfl⟩ (Nat.le_of_ble_eq_true rfl) dL_law_249 (s_X12_row H.2) (fun x9 h10 H => ?_)
      refine a_icmp_eq (tgt := 1329) dL_law_252 (by decide) (fun c => ?_) (fun c => ?_)
      · have H := H.1 (c)
        refine a_iinc (v := v3 + 6) (lv1 := [(0, .ref 0), (1, .ref v1), (2, .ref v2), (3, .int (v3 + 6))]) [1, 2, 3, 0] 3 rfl (by decide) rfl rfl dL_law_1329 ?_
        refine a_goto (tgt := 18) dL_law_1332 (by decide) ?_
        exact hK18 _ _ H
      · have H := H.2 (c)
        refine a_iconst (v := (0 : Int32)) (by decide) dL_law_255 ?_
        exact r_retz rfl bl_0 dL_law_256 H
    by_cases c1 : (x2 &&& (63 : Int32)) = 1
    · have H := H.2.1 c1
      refine r_tab (off := 224) (tgt := 257) dL_law_33 c1 (by decide) (by decide) rfl (by decide) ?_
      refine a_aload_n 1 rfl rfl dL_law_257 ?_
      refine a_aload_n 0 rfl rfl dL_law_258 ?_
      refine a_iload_n 3 rfl rfl dL_law_259 ?_
      refine a_iconst (v := (1 : Int32)) (by decide) dL_law_260 ?_
      refine a_iadd dL_law_261 ?_
      refine r_lX dL_law_262 H (fun x11 H => ?_)
      refine a_aload_n 0 rfl rfl dL_law_263 ?_
      refine a_iload_n 3 rfl rfl dL_law_264 ?_
      refine a_iconst (v := (2 : Int32)) (by decide) dL_law_265 ?_
      refine a_iadd dL_law_266 ?_
      refine r_lX dL_law_267 H (fun x12 H => ?_)
      refine a_aload_n 0 rfl rfl dL_law_268 ?_
      refine a_iload_n 3 rfl rfl dL_law_269 ?_
      refine a_iconst (v := (3 : Int32)) (by decide) dL_law_270 ?_
      refine a_iadd dL_law_271 ?_
      refine r_lX dL_law_272 H (fun x13 H => ?_)
      refine r_Vi (q := (RX11, TX11, 16)) (av := [.int x11, .int x12, .int x13]) (rest := []) rfl rfl okX11_lay H.1 rfl rfl wd275 wd276 wd277 ⟨Nat.le_of_ble_eq_true rfl, Nat.le_of_ble_eq_true rfl⟩ (Nat.le_of_ble_eq_true rfl) dL_law_273 (s_X11_lay H.2) (fun x14 h15 H => ?_)
      refine a_aload_n 2 rfl rfl dL_law_276 ?_
      refine a_aload_n 0 rfl rfl dL_law_277 ?_
      refine a_iload_n 3 rfl rfl dL_law_278 ?_
      refine a_iconst (v := (1 : Int32)) (by decide) dL_law_279 ?_
      refine a_iadd dL_law_280 ?_
      refine r_lX dL_law_281 H (fun x16 H => ?_)
      refine a_aload_n 0 rfl rfl dL_law_282 ?_
      refine a_iload_n 3 rfl rfl dL_law_283 ?_
      refine a_iconst (v := (2 : Int32)) (by decide) dL_law_284 ?_
      refine a_iadd dL_law_285 ?_
      refine r_lX dL_law_286 H (fun x17 H => ?_)
      refine a_aload_n 0 rfl rfl dL_law_287 ?_
      refine a_iload_n 3 rfl rfl dL_law_288 ?_
      refine a_iconst (v := (3 : Int32)) (by decide) dL_law_289 ?_
      refine a_iadd dL_law_290 ?_
      refine r_lX dL_law_291 H (fun x18 H => ?_)
      refine r_Vi (q := (RX12, TX12, 51)) (av := [.int x16, .int x17, .int x18]) (rest := [.int x14]) rfl rfl okX12_lay H.1 rfl rfl wd1199 wd1200 wd1201 ⟨Nat.le_of_ble_eq_true rfl, Nat.le_of_ble_eq_true rfl⟩ (Nat.le_of_ble_eq_true rfl) dL_law_292 (s_X12_lay H.2) (fun x19 h20 H => ?_)
      refine a_icmp_eq (tgt := 1329) dL_law_295 (by decide) (fun c => ?_) (fun c => ?_)
      · have H := H.1 (c)
        refine a_iinc (v := v3 + 6) (lv1 := [(0, .ref 0), (1, .ref v1), (2, .ref v2), (3, .int (v3 + 6))]) [1, 2, 3, 0] 3 rfl (by decide) rfl rfl dL_law_1329 ?_
        refine a_goto (tgt := 18) dL_law_1332 (by decide) ?_
        exact hK18 _ _ H
      · have H := H.2 (c)
        refine a_iconst (v := (0 : Int32)) (by decide) dL_law_298 ?_
        exact r_retz rfl bl_0 dL_law_299 H
    by_cases c2 : (x2 &&& (63 : Int32)) = 2
    · have H := H.2.2.1 c2
      refine r_tab (off := 267) (tgt := 300) dL_law_33 c2 (by decide) (by decide) rfl (by decide) ?_
      refine a_aload_n 1 rfl rfl dL_law_300 ?_
      refine a_aload_n 0 rfl rfl dL_law_301 ?_
      refine a_iload_n 3 rfl rfl dL_law_302 ?_
      refine a_iconst (v := (1 : Int32)) (by decide) dL_law_303 ?_
      refine a_iadd dL_law_304 ?_
      refine r_lX dL_law_305 H (fun x21 H => ?_)
      refine a_aload_n 0 rfl rfl dL_law_306 ?_
      refine a_iload_n 3 rfl rfl dL_law_307 ?_
      refine a_iconst (v := (2 : Int32)) (by decide) dL_law_308 ?_
      refine a_iadd dL_law_309 ?_
      refine r_lX dL_law_310 H (fun x22 H => ?_)
      refine r_Vi (q := (RX11, TX11, 16)) (av := [.int x21, .int x22]) (rest := []) rfl rfl okX11_at H.1 rfl rfl wd304 wd305 wd306 ⟨Nat.le_of_ble_eq_true rfl, Nat.le_of_ble_eq_true rfl⟩ (Nat.le_of_ble_eq_true rfl) dL_law_311 (s_X11_at H.2) (fun x23 h24 H => ?_)
      refine a_aload_n 2 rfl rfl dL_law_314 ?_
      refine a_aload_n 0 rfl rfl dL_law_315 ?_
      refine a_iload_n 3 rfl rfl dL_law_316 ?_
      refine a_iconst (v := (1 : Int32)) (by decide) dL_law_317 ?_
      refine a_iadd dL_law_318 ?_
      refine r_lX dL_law_319 H (fun x25 H => ?_)
      refine a_aload_n 0 rfl rfl dL_law_320 ?_
      refine a_iload_n 3 rfl rfl dL_law_321 ?_
      refine a_iconst (v := (2 : Int32)) (by decide) dL_law_322 ?_
      refine a_iadd dL_law_323 ?_
      refine r_lX dL_law_324 H (fun x26 H => ?_)
      refine r_Vi (q := (RX12, TX12, 51)) (av := [.int x25, .int x26]) (rest := [.int x23]) rfl rfl okX12_at H.1 rfl rfl wd1207 wd1208 wd1209 ⟨Nat.le_of_ble_eq_true rfl, Nat.le_of_ble_eq_true rfl⟩ (Nat.le_of_ble_eq_true rfl) dL_law_325 (s_X12_at H.2) (fun x27 h28 H => ?_)
      refine a_icmp_eq (tgt := 1329) dL_law_328 (by decide) (fun c => ?_) (fun c => ?_)
      · have H := H.1 (c)
        refine a_iinc (v := v3 + 6) (lv1 := [(0, .ref 0), (1, .ref v1), (2, .ref v2), (3, .int (v3 + 6))]) [1, 2, 3, 0] 3 rfl (by decide) rfl rfl dL_law_1329 ?_
        refine a_goto (tgt := 18) dL_law_1332 (by decide) ?_
        exact hK18 _ _ H
      · have H := H.2 (c)
        refine a_iconst (v := (0 : Int32)) (by decide) dL_law_331 ?_
        exact r_retz rfl bl_0 dL_law_332 H
    by_cases c3 : (x2 &&& (63 : Int32)) = 3
    · have H := H.2.2.2.1 c3
      refine r_tab (off := 300) (tgt := 333) dL_law_33 c3 (by decide) (by decide) rfl (by decide) ?_
      refine a_aload_n 1 rfl rfl dL_law_333 ?_
      refine a_aload_n 0 rfl rfl dL_law_334 ?_
      refine a_iload_n 3 rfl rfl dL_law_335 ?_
      refine a_iconst (v := (1 : Int32)) (by decide) dL_law_336 ?_
      refine a_iadd dL_law_337 ?_
      refine r_lX dL_law_338 H (fun x29 H => ?_)
      refine r_Vi (q := (RX11, TX11, 16)) (av := [.int x29]) (rest := []) rfl rfl okX11_tear H.1 rfl rfl wd308 wd309 wd310 ⟨Nat.le_of_ble_eq_true rfl, Nat.le_of_ble_eq_true rfl⟩ (Nat.le_of_ble_eq_true rfl) dL_law_339 (s_X11_tear H.2) (fun x30 h31 H => ?_)
      refine a_aload_n 2 rfl rfl dL_law_342 ?_
      refine a_aload_n 0 rfl rfl dL_law_343 ?_
      refine a_iload_n 3 rfl rfl dL_law_344 ?_
      refine a_iconst (v := (1 : Int32)) (by decide) dL_law_345 ?_
      refine a_iadd dL_law_346 ?_
      refine r_lX dL_law_347 H (fun x32 H => ?_)
      refine r_Vi (q := (RX12, TX12, 51)) (av := [.int x32]) (rest := [.int x30]) rfl rfl okX12_tear H.1 rfl rfl wd1215 wd1216 wd1217 ⟨Nat.le_of_ble_eq_true rfl, Nat.le_of_ble_eq_true rfl⟩ (Nat.le_of_ble_eq_true rfl) dL_law_348 (s_X12_tear H.2) (fun x33 h34 H => ?_)
      refine a_icmp_eq (tgt := 1329) dL_law_351 (by decide) (fun c => ?_) (fun c => ?_)
      · have H := H.1 (c)
        refine a_iinc (v := v3 + 6) (lv1 := [(0, .ref 0), (1, .ref v1), (2, .ref v2), (3, .int (v3 + 6))]) [1, 2, 3, 0] 3 rfl (by decide) rfl rfl dL_law_1329 ?_
        refine a_goto (tgt := 18) dL_law_1332 (by decide) ?_
        exact hK18 _ _ H
      · have H := H.2 (c)
        refine a_iconst (v := (0 : Int32)) (by decide) dL_law_354 ?_
        exact r_retz rfl bl_0 dL_law_355 H
    by_cases c4 : (x2 &&& (63 : Int32)) = 4
    · have H := H.2.2.2.2.1 c4
      refine r_tab (off := 323) (tgt := 356) dL_law_33 c4 (by decide) (by decide) rfl (by decide) ?_
      refine a_aload_n 1 rfl rfl dL_law_356 ?_
      refine a_aload_n 0 rfl rfl dL_law_357 ?_
      refine a_iload_n 3 rfl rfl dL_law_358 ?_
      refine a_iconst (v := (1 : Int32)) (by decide) dL_law_359 ?_
      refine a_iadd dL_law_360 ?_
      refine r_lX dL_law_361 H (fun x35 H => ?_)
      refine a_aload_n 0 rfl rfl dL_law_362 ?_
      refine a_iload_n 3 rfl rfl dL_law_363 ?_
      refine a_iconst (v := (2 : Int32)) (by decide) dL_law_364 ?_
      refine a_iadd dL_law_365 ?_
      refine r_lX dL_law_366 H (fun x36 H => ?_)
      refine a_aload_n 0 rfl rfl dL_law_367 ?_
      refine a_iload_n 3 rfl rfl dL_law_368 ?_
      refine a_iconst (v := (3 : Int32)) (by decide) dL_law_369 ?_
      refine a_iadd dL_law_370 ?_
      refine r_lX dL_law_371 H (fun x37 H => ?_)
      refine a_aload_n 0 rfl rfl dL_law_372 ?_
      refine a_iload_n 3 rfl rfl dL_law_373 ?_
      refine a_iconst (v := (4 : Int32)) (by decide) dL_law_374 ?_
      refine a_iadd dL_law_375 ?_
      refine r_lX dL_law_376 H (fun x38 H => ?_)
      refine a_aload_n 0 rfl rfl dL_law_377 ?_
      refine a_iload_n 3 rfl rfl dL_law_378 ?_
      refine a_iconst (v := (5 : Int32)) (by decide) dL_law_379 ?_
      refine a_iadd dL_law_380 ?_
      refine r_lX dL_law_381 H (fun x39 H => ?_)
      refine r_Vi (q := (RX11, TX11, 16)) (av := [.int x35, .int x36, .int x37, .int x38, .int x39]) (rest := []) rfl rfl okX11_copy H.1 rfl rfl wd316 wd317 wd318 ⟨Nat.le_of_ble_eq_true rfl, Nat.le_of_ble_eq_true rfl⟩ (Nat.le_of_ble_eq_true rfl) dL_law_382 (s_X11_copy H.2) (fun x40 h41 H => ?_)
      refine a_aload_n 2 rfl rfl dL_law_385 ?_
      refine a_aload_n 0 rfl rfl dL_law_386 ?_
      refine a_iload_n 3 rfl rfl dL_law_387 ?_
      refine a_iconst (v := (1 : Int32)) (by decide) dL_law_388 ?_
      refine a_iadd dL_law_389 ?_
      refine r_lX dL_law_390 H (fun x42 H => ?_)
      refine a_aload_n 0 rfl rfl dL_law_391 ?_
      refine a_iload_n 3 rfl rfl dL_law_392 ?_
      refine a_iconst (v := (2 : Int32)) (by decide) dL_law_393 ?_
      refine a_iadd dL_law_394 ?_
      refine r_lX dL_law_395 H (fun x43 H => ?_)
      refine a_aload_n 0 rfl rfl dL_law_396 ?_
      refine a_iload_n 3 rfl rfl dL_law_397 ?_
      refine a_iconst (v := (3 : Int32)) (by decide) dL_law_398 ?_
      refine a_iadd dL_law_399 ?_
      refine r_lX dL_law_400 H (fun x44 H => ?_)
      refine a_aload_n 0 rfl rfl dL_law_401 ?_
      refine a_iload_n 3 rfl rfl dL_law_402 ?_
      refine a_iconst (v := (4 : Int32)) (by decide) dL_law_403 ?_
      refine a_iadd dL_law_404 ?_
      refine r_lX dL_law_405 H (fun x45 H => ?_)
      refine a_aload_n 0 rfl rfl dL_law_406 ?_
      refine a_iload_n 3 rfl rfl dL_law_407 ?_
      refine a_iconst (v := (5 : Int32)) (by decide) dL_law_408 ?_
      refine a_iadd dL_law_409 ?_
      refine r_lX dL_law_410 H (fun x46 H => ?_)
      refine r_Vi (q := (RX12, TX12, 51)) (av := [.int x42, .int x43, .int x44, .int x45, .int x46]) (rest := [.int x40]) rfl rfl okX12_copy H.1 rfl rfl wd1219 wd1220 wd1221 ⟨Nat.le_of_ble_eq_true rfl, Nat.le_of_ble_eq_true rfl⟩ (Nat.le_of_ble_eq_true rfl) dL_law_411 (s_X12_copy H.2) (fun x47 h48 H => ?_)
      refine a_icmp_eq (tgt := 1329) dL_law_414 (by decide) (fun c => ?_) (fun c => ?_)
      · have H := H.1 (c)
        refine a_iinc (v := v3 + 6) (lv1 := [(0, .ref 0), (1, .ref v1), (2, .ref v2), (3, .int (v3 + 6))]) [1, 2, 3, 0] 3 rfl (by decide) rfl rfl dL_law_1329 ?_
        refine a_goto (tgt := 18) dL_law_1332 (by decide) ?_
        exact hK18 _ _ H
      · have H := H.2 (c)
        refine a_iconst (v := (0 : Int32)) (by decide) dL_law_417 ?_
        exact r_retz rfl bl_0 dL_law_418 H
    by_cases c5 : (x2 &&& (63 : Int32)) = 5
    · have H := H.2.2.2.2.2.1 c5
      refine r_tab (off := 386) (tgt := 419) dL_law_33 c5 (by decide) (by decide) rfl (by decide) ?_
      refine a_aload_n 1 rfl rfl dL_law_419 ?_
      refine a_aload_n 0 rfl rfl dL_law_420 ?_
      refine a_iload_n 3 rfl rfl dL_law_421 ?_
      refine a_iconst (v := (1 : Int32)) (by decide) dL_law_422 ?_
      refine a_iadd dL_law_423 ?_
      refine r_lX dL_law_424 H (fun x49 H => ?_)
      refine r_Vi (q := (RX11, TX11, 16)) (av := [.int x49]) (rest := []) rfl rfl okX11_mean H.1 rfl rfl wd327 wd328 wd329 ⟨Nat.le_of_ble_eq_true rfl, Nat.le_of_ble_eq_true rfl⟩ (Nat.le_of_ble_eq_true rfl) dL_law_425 (s_X11_mean H.2) (fun x50 h51 H => ?_)
      refine a_aload_n 2 rfl rfl dL_law_428 ?_
      refine a_aload_n 0 rfl rfl dL_law_429 ?_
      refine a_iload_n 3 rfl rfl dL_law_430 ?_
      refine a_iconst (v := (1 : Int32)) (by decide) dL_law_431 ?_
      refine a_iadd dL_law_432 ?_
      refine r_lX dL_law_433 H (fun x52 H => ?_)
      refine r_Vi (q := (RX12, TX12, 51)) (av := [.int x52]) (rest := [.int x50]) rfl rfl okX12_mean H.1 rfl rfl wd1223 wd1224 wd1225 ⟨Nat.le_of_ble_eq_true rfl, Nat.le_of_ble_eq_true rfl⟩ (Nat.le_of_ble_eq_true rfl) dL_law_434 (s_X12_mean H.2) (fun x53 h54 H => ?_)
      refine a_icmp_eq (tgt := 1329) dL_law_437 (by decide) (fun c => ?_) (fun c => ?_)
      · have H := H.1 (c)
        refine a_iinc (v := v3 + 6) (lv1 := [(0, .ref 0), (1, .ref v1), (2, .ref v2), (3, .int (v3 + 6))]) [1, 2, 3, 0] 3 rfl (by decide) rfl rfl dL_law_1329 ?_
        refine a_goto (tgt := 18) dL_law_1332 (by decide) ?_
        exact hK18 _ _ H
      · have H := H.2 (c)
        refine a_iconst (v := (0 : Int32)) (by decide) dL_law_440 ?_
        exact r_retz rfl bl_0 dL_law_441 H
    by_cases c6 : (x2 &&& (63 : Int32)) = 6
    · have H := H.2.2.2.2.2.2.1 c6
      refine r_tab (off := 409) (tgt := 442) dL_law_33 c6 (by decide) (by decide) rfl (by decide) ?_
      refine a_aload_n 1 rfl rfl dL_law_442 ?_
      refine a_aload_n 0 rfl rfl dL_law_443 ?_
      refine a_iload_n 3 rfl rfl dL_law_444 ?_
      refine a_iconst (v := (1 : Int32)) (by decide) dL_law_445 ?_
      refine a_iadd dL_law_446 ?_
      refine r_lX dL_law_447 H (fun x55 H => ?_)
      refine a_aload_n 0 rfl rfl dL_law_448 ?_
      refine a_iload_n 3 rfl rfl dL_law_449 ?_
      refine a_iconst (v := (2 : Int32)) (by decide) dL_law_450 ?_
      refine a_iadd dL_law_451 ?_
      refine r_lX dL_law_452 H (fun x56 H => ?_)
      refine r_Vi (q := (RX11, TX11, 16)) (av := [.int x55, .int x56]) (rest := []) rfl rfl okX11_text H.1 rfl rfl wd331 wd332 wd333 ⟨Nat.le_of_ble_eq_true rfl, Nat.le_of_ble_eq_true rfl⟩ (Nat.le_of_ble_eq_true rfl) dL_law_453 (s_X11_text H.2) (fun x57 h58 H => ?_)
      refine a_aload_n 2 rfl rfl dL_law_456 ?_
      refine a_aload_n 0 rfl rfl dL_law_457 ?_
      refine a_iload_n 3 rfl rfl dL_law_458 ?_
      refine a_iconst (v := (1 : Int32)) (by decide) dL_law_459 ?_
      refine a_iadd dL_law_460 ?_
      refine r_lX dL_law_461 H (fun x59 H => ?_)
      refine a_aload_n 0 rfl rfl dL_law_462 ?_
      refine a_iload_n 3 rfl rfl dL_law_463 ?_
      refine a_iconst (v := (2 : Int32)) (by decide) dL_law_464 ?_
      refine a_iadd dL_law_465 ?_
      refine r_lX dL_law_466 H (fun x60 H => ?_)
      refine r_Vi (q := (RX12, TX12, 51)) (av := [.int x59, .int x60]) (rest := [.int x57]) rfl rfl okX12_text H.1 rfl rfl wd1227 wd1228 wd1229 ⟨Nat.le_of_ble_eq_true rfl, Nat.le_of_ble_eq_true rfl⟩ (Nat.le_of_ble_eq_true rfl) dL_law_467 (s_X12_text H.2) (fun x61 h62 H => ?_)
      refine a_icmp_eq (tgt := 1329) dL_law_470 (by decide) (fun c => ?_) (fun c => ?_)
      · have H := H.1 (c)
        refine a_iinc (v := v3 + 6) (lv1 := [(0, .ref 0), (1, .ref v1), (2, .ref v2), (3, .int (v3 + 6))]) [1, 2, 3, 0] 3 rfl (by decide) rfl rfl dL_law_1329 ?_
        refine a_goto (tgt := 18) dL_law_1332 (by decide) ?_
        exact hK18 _ _ H
      · have H := H.2 (c)
        refine a_iconst (v := (0 : Int32)) (by decide) dL_law_473 ?_
        exact r_retz rfl bl_0 dL_law_474 H
    by_cases c7 : (x2 &&& (63 : Int32)) = 7
    · have H := H.2.2.2.2.2.2.2.1 c7
      refine r_tab (off := 442) (tgt := 475) dL_law_33 c7 (by decide) (by decide) rfl (by decide) ?_
      refine a_aload_n 1 rfl rfl dL_law_475 ?_
      refine a_aload_n 0 rfl rfl dL_law_476 ?_
      refine a_iload_n 3 rfl rfl dL_law_477 ?_
      refine a_iconst (v := (1 : Int32)) (by decide) dL_law_478 ?_
      refine a_iadd dL_law_479 ?_
      refine r_lX dL_law_480 H (fun x63 H => ?_)
      refine a_aload_n 0 rfl rfl dL_law_481 ?_
      refine a_iload_n 3 rfl rfl dL_law_482 ?_
      refine a_iconst (v := (2 : Int32)) (by decide) dL_law_483 ?_
      refine a_iadd dL_law_484 ?_
      refine r_lX dL_law_485 H (fun x64 H => ?_)
      refine a_aload_n 0 rfl rfl dL_law_486 ?_
      refine a_iload_n 3 rfl rfl dL_law_487 ?_
      refine a_iconst (v := (3 : Int32)) (by decide) dL_law_488 ?_
      refine a_iadd dL_law_489 ?_
      refine r_lX dL_law_490 H (fun x65 H => ?_)
      refine r_Vi (q := (RX11, TX11, 16)) (av := [.int x63, .int x64, .int x65]) (rest := []) rfl rfl okX11_put H.1 rfl rfl wd335 wd336 wd337 ⟨Nat.le_of_ble_eq_true rfl, Nat.le_of_ble_eq_true rfl⟩ (Nat.le_of_ble_eq_true rfl) dL_law_491 (s_X11_put H.2) (fun x66 h67 H => ?_)
      refine a_aload_n 2 rfl rfl dL_law_494 ?_
      refine a_aload_n 0 rfl rfl dL_law_495 ?_
      refine a_iload_n 3 rfl rfl dL_law_496 ?_
      refine a_iconst (v := (1 : Int32)) (by decide) dL_law_497 ?_
      refine a_iadd dL_law_498 ?_
      refine r_lX dL_law_499 H (fun x68 H => ?_)
      refine a_aload_n 0 rfl rfl dL_law_500 ?_
      refine a_iload_n 3 rfl rfl dL_law_501 ?_
      refine a_iconst (v := (2 : Int32)) (by decide) dL_law_502 ?_
      refine a_iadd dL_law_503 ?_
      refine r_lX dL_law_504 H (fun x69 H => ?_)
      refine a_aload_n 0 rfl rfl dL_law_505 ?_
      refine a_iload_n 3 rfl rfl dL_law_506 ?_
      refine a_iconst (v := (3 : Int32)) (by decide) dL_law_507 ?_
      refine a_iadd dL_law_508 ?_
      refine r_lX dL_law_509 H (fun x70 H => ?_)
      refine r_Vi (q := (RX12, TX12, 51)) (av := [.int x68, .int x69, .int x70]) (rest := [.int x66]) rfl rfl okX12_put H.1 rfl rfl wd1235 wd1236 wd1237 ⟨Nat.le_of_ble_eq_true rfl, Nat.le_of_ble_eq_true rfl⟩ (Nat.le_of_ble_eq_true rfl) dL_law_510 (s_X12_put H.2) (fun x71 h72 H => ?_)
      refine a_icmp_eq (tgt := 1329) dL_law_513 (by decide) (fun c => ?_) (fun c => ?_)
      · have H := H.1 (c)
        refine a_iinc (v := v3 + 6) (lv1 := [(0, .ref 0), (1, .ref v1), (2, .ref v2), (3, .int (v3 + 6))]) [1, 2, 3, 0] 3 rfl (by decide) rfl rfl dL_law_1329 ?_
        refine a_goto (tgt := 18) dL_law_1332 (by decide) ?_
        exact hK18 _ _ H
      · have H := H.2 (c)
        refine a_iconst (v := (0 : Int32)) (by decide) dL_law_516 ?_
        exact r_retz rfl bl_0 dL_law_517 H
    by_cases c8 : (x2 &&& (63 : Int32)) = 8
    · have H := H.2.2.2.2.2.2.2.2.1 c8
      refine r_tab (off := 485) (tgt := 518) dL_law_33 c8 (by decide) (by decide) rfl (by decide) ?_
      refine a_aload_n 1 rfl rfl dL_law_518 ?_
      refine a_aload_n 0 rfl rfl dL_law_519 ?_
      refine a_iload_n 3 rfl rfl dL_law_520 ?_
      refine a_iconst (v := (1 : Int32)) (by decide) dL_law_521 ?_
      refine a_iadd dL_law_522 ?_
      refine r_lX dL_law_523 H (fun x73 H => ?_)
      refine r_Vi (q := (RX11, TX11, 16)) (av := [.int x73]) (rest := []) rfl rfl okX11_fault H.1 rfl rfl wd339 wd340 wd341 ⟨Nat.le_of_ble_eq_true rfl, Nat.le_of_ble_eq_true rfl⟩ (Nat.le_of_ble_eq_true rfl) dL_law_524 (s_X11_fault H.2) (fun x74 h75 H => ?_)
      refine a_aload_n 2 rfl rfl dL_law_527 ?_
      refine a_aload_n 0 rfl rfl dL_law_528 ?_
      refine a_iload_n 3 rfl rfl dL_law_529 ?_
      refine a_iconst (v := (1 : Int32)) (by decide) dL_law_530 ?_
      refine a_iadd dL_law_531 ?_
      refine r_lX dL_law_532 H (fun x76 H => ?_)
      refine r_Vi (q := (RX12, TX12, 51)) (av := [.int x76]) (rest := [.int x74]) rfl rfl okX12_fault H.1 rfl rfl wd1239 wd1240 wd1241 ⟨Nat.le_of_ble_eq_true rfl, Nat.le_of_ble_eq_true rfl⟩ (Nat.le_of_ble_eq_true rfl) dL_law_533 (s_X12_fault H.2) (fun x77 h78 H => ?_)
      refine a_icmp_eq (tgt := 1329) dL_law_536 (by decide) (fun c => ?_) (fun c => ?_)
      · have H := H.1 (c)
        refine a_iinc (v := v3 + 6) (lv1 := [(0, .ref 0), (1, .ref v1), (2, .ref v2), (3, .int (v3 + 6))]) [1, 2, 3, 0] 3 rfl (by decide) rfl rfl dL_law_1329 ?_
        refine a_goto (tgt := 18) dL_law_1332 (by decide) ?_
        exact hK18 _ _ H
      · have H := H.2 (c)
        refine a_iconst (v := (0 : Int32)) (by decide) dL_law_539 ?_
        exact r_retz rfl bl_0 dL_law_540 H
    by_cases c9 : (x2 &&& (63 : Int32)) = 9
    · have H := H.2.2.2.2.2.2.2.2.2.1 c9
      refine r_tab (off := 508) (tgt := 541) dL_law_33 c9 (by decide) (by decide) rfl (by decide) ?_
      refine a_aload_n 1 rfl rfl dL_law_541 ?_
      refine a_aload_n 0 rfl rfl dL_law_542 ?_
      refine a_iload_n 3 rfl rfl dL_law_543 ?_
      refine a_iconst (v := (1 : Int32)) (by decide) dL_law_544 ?_
      refine a_iadd dL_law_545 ?_
      refine r_lX dL_law_546 H (fun x79 H => ?_)
      refine r_Vi (q := (RX11, TX11, 16)) (av := [.int x79]) (rest := []) rfl rfl okX11_road H.1 rfl rfl wd503 wd504 wd505 ⟨Nat.le_of_ble_eq_true rfl, Nat.le_of_ble_eq_true rfl⟩ (Nat.le_of_ble_eq_true rfl) dL_law_547 (s_X11_road H.2) (fun x80 h81 H => ?_)
      refine a_aload_n 2 rfl rfl dL_law_550 ?_
      refine a_aload_n 0 rfl rfl dL_law_551 ?_
      refine a_iload_n 3 rfl rfl dL_law_552 ?_
      refine a_iconst (v := (1 : Int32)) (by decide) dL_law_553 ?_
      refine a_iadd dL_law_554 ?_
      refine r_lX dL_law_555 H (fun x82 H => ?_)
      refine r_Vi (q := (RX12, TX12, 51)) (av := [.int x82]) (rest := [.int x80]) rfl rfl okX12_road H.1 rfl rfl wd1270 wd1271 wd1272 ⟨Nat.le_of_ble_eq_true rfl, Nat.le_of_ble_eq_true rfl⟩ (Nat.le_of_ble_eq_true rfl) dL_law_556 (s_X12_road H.2) (fun x83 h84 H => ?_)
      refine a_icmp_eq (tgt := 1329) dL_law_559 (by decide) (fun c => ?_) (fun c => ?_)
      · have H := H.1 (c)
        refine a_iinc (v := v3 + 6) (lv1 := [(0, .ref 0), (1, .ref v1), (2, .ref v2), (3, .int (v3 + 6))]) [1, 2, 3, 0] 3 rfl (by decide) rfl rfl dL_law_1329 ?_
        refine a_goto (tgt := 18) dL_law_1332 (by decide) ?_
        exact hK18 _ _ H
      · have H := H.2 (c)
        refine a_iconst (v := (0 : Int32)) (by decide) dL_law_562 ?_
        exact r_retz rfl bl_0 dL_law_563 H
    by_cases c10 : (x2 &&& (63 : Int32)) = 10
    · have H := H.2.2.2.2.2.2.2.2.2.2.1 c10
      refine r_tab (off := 531) (tgt := 564) dL_law_33 c10 (by decide) (by decide) rfl (by decide) ?_
      refine a_aload_n 1 rfl rfl dL_law_564 ?_
      refine a_aload_n 0 rfl rfl dL_law_565 ?_
      refine a_iload_n 3 rfl rfl dL_law_566 ?_
      refine a_iconst (v := (1 : Int32)) (by decide) dL_law_567 ?_
      refine a_iadd dL_law_568 ?_
      refine r_lX dL_law_569 H (fun x85 H => ?_)
      refine a_aload_n 0 rfl rfl dL_law_570 ?_
      refine a_iload_n 3 rfl rfl dL_law_571 ?_
      refine a_iconst (v := (2 : Int32)) (by decide) dL_law_572 ?_
      refine a_iadd dL_law_573 ?_
      refine r_lX dL_law_574 H (fun x86 H => ?_)
      refine r_Vi (q := (RX11, TX11, 16)) (av := [.int x85, .int x86]) (rest := []) rfl rfl okX11_stone H.1 rfl rfl wd507 wd508 wd509 ⟨Nat.le_of_ble_eq_true rfl, Nat.le_of_ble_eq_true rfl⟩ (Nat.le_of_ble_eq_true rfl) dL_law_575 (s_X11_stone H.2) (fun x87 h88 H => ?_)
      refine a_aload_n 2 rfl rfl dL_law_578 ?_
      refine a_aload_n 0 rfl rfl dL_law_579 ?_
      refine a_iload_n 3 rfl rfl dL_law_580 ?_
      refine a_iconst (v := (1 : Int32)) (by decide) dL_law_581 ?_
      refine a_iadd dL_law_582 ?_
      refine r_lX dL_law_583 H (fun x89 H => ?_)
      refine a_aload_n 0 rfl rfl dL_law_584 ?_
      refine a_iload_n 3 rfl rfl dL_law_585 ?_
      refine a_iconst (v := (2 : Int32)) (by decide) dL_law_586 ?_
      refine a_iadd dL_law_587 ?_
      refine r_lX dL_law_588 H (fun x90 H => ?_)
      refine r_Vi (q := (RX12, TX12, 51)) (av := [.int x89, .int x90]) (rest := [.int x87]) rfl rfl okX12_stone H.1 rfl rfl wd1278 wd1279 wd1280 ⟨Nat.le_of_ble_eq_true rfl, Nat.le_of_ble_eq_true rfl⟩ (Nat.le_of_ble_eq_true rfl) dL_law_589 (s_X12_stone H.2) (fun x91 h92 H => ?_)
      refine a_icmp_eq (tgt := 1329) dL_law_592 (by decide) (fun c => ?_) (fun c => ?_)
      · have H := H.1 (c)
        refine a_iinc (v := v3 + 6) (lv1 := [(0, .ref 0), (1, .ref v1), (2, .ref v2), (3, .int (v3 + 6))]) [1, 2, 3, 0] 3 rfl (by decide) rfl rfl dL_law_1329 ?_
        refine a_goto (tgt := 18) dL_law_1332 (by decide) ?_
        exact hK18 _ _ H
      · have H := H.2 (c)
        refine a_iconst (v := (0 : Int32)) (by decide) dL_law_595 ?_
        exact r_retz rfl bl_0 dL_law_596 H
    by_cases c11 : (x2 &&& (63 : Int32)) = 11
    · have H := H.2.2.2.2.2.2.2.2.2.2.2.1 c11
      refine r_tab (off := 564) (tgt := 597) dL_law_33 c11 (by decide) (by decide) rfl (by decide) ?_
      refine a_aload_n 1 rfl rfl dL_law_597 ?_
      refine a_aload_n 0 rfl rfl dL_law_598 ?_
      refine a_iload_n 3 rfl rfl dL_law_599 ?_
      refine a_iconst (v := (1 : Int32)) (by decide) dL_law_600 ?_
      refine a_iadd dL_law_601 ?_
      refine r_lX dL_law_602 H (fun x93 H => ?_)
      refine a_aload_n 0 rfl rfl dL_law_603 ?_
      refine a_iload_n 3 rfl rfl dL_law_604 ?_
      refine a_iconst (v := (2 : Int32)) (by decide) dL_law_605 ?_
      refine a_iadd dL_law_606 ?_
      refine r_lX dL_law_607 H (fun x94 H => ?_)
      refine r_Vi (q := (RX11, TX11, 16)) (av := [.int x93, .int x94]) (rest := []) rfl rfl okX11_walker H.1 rfl rfl wd530 wd531 wd532 ⟨Nat.le_of_ble_eq_true rfl, Nat.le_of_ble_eq_true rfl⟩ (Nat.le_of_ble_eq_true rfl) dL_law_608 (s_X11_walker H.2) (fun x95 h96 H => ?_)
      refine a_aload_n 2 rfl rfl dL_law_611 ?_
      refine a_aload_n 0 rfl rfl dL_law_612 ?_
      refine a_iload_n 3 rfl rfl dL_law_613 ?_
      refine a_iconst (v := (1 : Int32)) (by decide) dL_law_614 ?_
      refine a_iadd dL_law_615 ?_
      refine r_lX dL_law_616 H (fun x97 H => ?_)
      refine a_aload_n 0 rfl rfl dL_law_617 ?_
      refine a_iload_n 3 rfl rfl dL_law_618 ?_
      refine a_iconst (v := (2 : Int32)) (by decide) dL_law_619 ?_
      refine a_iadd dL_law_620 ?_
      refine r_lX dL_law_621 H (fun x98 H => ?_)
      refine r_Vi (q := (RX12, TX12, 51)) (av := [.int x97, .int x98]) (rest := [.int x95]) rfl rfl okX12_walker H.1 rfl rfl wd1296 wd1297 wd1298 ⟨Nat.le_of_ble_eq_true rfl, Nat.le_of_ble_eq_true rfl⟩ (Nat.le_of_ble_eq_true rfl) dL_law_622 (s_X12_walker H.2) (fun x99 h100 H => ?_)
      refine a_icmp_eq (tgt := 1329) dL_law_625 (by decide) (fun c => ?_) (fun c => ?_)
      · have H := H.1 (c)
        refine a_iinc (v := v3 + 6) (lv1 := [(0, .ref 0), (1, .ref v1), (2, .ref v2), (3, .int (v3 + 6))]) [1, 2, 3, 0] 3 rfl (by decide) rfl rfl dL_law_1329 ?_
        refine a_goto (tgt := 18) dL_law_1332 (by decide) ?_
        exact hK18 _ _ H
      · have H := H.2 (c)
        refine a_iconst (v := (0 : Int32)) (by decide) dL_law_628 ?_
        exact r_retz rfl bl_0 dL_law_629 H
    by_cases c12 : (x2 &&& (63 : Int32)) = 12
    · have H := H.2.2.2.2.2.2.2.2.2.2.2.2.1 c12
      refine r_tab (off := 597) (tgt := 630) dL_law_33 c12 (by decide) (by decide) rfl (by decide) ?_
      refine a_aload_n 1 rfl rfl dL_law_630 ?_
      refine a_aload_n 0 rfl rfl dL_law_631 ?_
      refine a_iload_n 3 rfl rfl dL_law_632 ?_
      refine a_iconst (v := (1 : Int32)) (by decide) dL_law_633 ?_
      refine a_iadd dL_law_634 ?_
      refine r_lX dL_law_635 H (fun x101 H => ?_)
      refine a_aload_n 0 rfl rfl dL_law_636 ?_
      refine a_iload_n 3 rfl rfl dL_law_637 ?_
      refine a_iconst (v := (2 : Int32)) (by decide) dL_law_638 ?_
      refine a_iadd dL_law_639 ?_
      refine r_lX dL_law_640 H (fun x102 H => ?_)
      refine r_Vi (q := (RX11, TX11, 16)) (av := [.int x101, .int x102]) (rest := []) rfl rfl okX11_mark H.1 rfl rfl wd566 wd567 wd568 ⟨Nat.le_of_ble_eq_true rfl, Nat.le_of_ble_eq_true rfl⟩ (Nat.le_of_ble_eq_true rfl) dL_law_641 (s_X11_mark H.2) (fun x103 h104 H => ?_)
      refine a_aload_n 2 rfl rfl dL_law_644 ?_
      refine a_aload_n 0 rfl rfl dL_law_645 ?_
      refine a_iload_n 3 rfl rfl dL_law_646 ?_
      refine a_iconst (v := (1 : Int32)) (by decide) dL_law_647 ?_
      refine a_iadd dL_law_648 ?_
      refine r_lX dL_law_649 H (fun x105 H => ?_)
      refine a_aload_n 0 rfl rfl dL_law_650 ?_
      refine a_iload_n 3 rfl rfl dL_law_651 ?_
      refine a_iconst (v := (2 : Int32)) (by decide) dL_law_652 ?_
      refine a_iadd dL_law_653 ?_
      refine r_lX dL_law_654 H (fun x106 H => ?_)
      refine r_Vi (q := (RX12, TX12, 51)) (av := [.int x105, .int x106]) (rest := [.int x103]) rfl rfl okX12_mark H.1 rfl rfl wd1304 wd1305 wd1306 ⟨Nat.le_of_ble_eq_true rfl, Nat.le_of_ble_eq_true rfl⟩ (Nat.le_of_ble_eq_true rfl) dL_law_655 (s_X12_mark H.2) (fun x107 h108 H => ?_)
      refine a_icmp_eq (tgt := 1329) dL_law_658 (by decide) (fun c => ?_) (fun c => ?_)
      · have H := H.1 (c)
        refine a_iinc (v := v3 + 6) (lv1 := [(0, .ref 0), (1, .ref v1), (2, .ref v2), (3, .int (v3 + 6))]) [1, 2, 3, 0] 3 rfl (by decide) rfl rfl dL_law_1329 ?_
        refine a_goto (tgt := 18) dL_law_1332 (by decide) ?_
        exact hK18 _ _ H
      · have H := H.2 (c)
        refine a_iconst (v := (0 : Int32)) (by decide) dL_law_661 ?_
        exact r_retz rfl bl_0 dL_law_662 H
    by_cases c13 : (x2 &&& (63 : Int32)) = 13
    · have H := H.2.2.2.2.2.2.2.2.2.2.2.2.2.1 c13
      refine r_tab (off := 630) (tgt := 663) dL_law_33 c13 (by decide) (by decide) rfl (by decide) ?_
      refine a_aload_n 1 rfl rfl dL_law_663 ?_
      refine a_aload_n 0 rfl rfl dL_law_664 ?_
      refine a_iload_n 3 rfl rfl dL_law_665 ?_
      refine a_iconst (v := (1 : Int32)) (by decide) dL_law_666 ?_
      refine a_iadd dL_law_667 ?_
      refine r_lX dL_law_668 H (fun x109 H => ?_)
      refine r_Vi (q := (RX11, TX11, 16)) (av := [.int x109]) (rest := []) rfl rfl okX11_law H.1 rfl rfl wd673 wd674 wd675 ⟨Nat.le_of_ble_eq_true rfl, Nat.le_of_ble_eq_true rfl⟩ (Nat.le_of_ble_eq_true rfl) dL_law_669 (s_X11_law H.2) (fun x110 h111 H => ?_)
      refine a_aload_n 2 rfl rfl dL_law_672 ?_
      refine a_aload_n 0 rfl rfl dL_law_673 ?_
      refine a_iload_n 3 rfl rfl dL_law_674 ?_
      refine a_iconst (v := (1 : Int32)) (by decide) dL_law_675 ?_
      refine a_iadd dL_law_676 ?_
      refine r_lX dL_law_677 H (fun x112 H => ?_)
      refine r_Vi (q := (RX12, TX12, 51)) (av := [.int x112]) (rest := [.int x110]) rfl rfl okX12_law H.1 rfl rfl wd1338 wd1339 wd1340 ⟨Nat.le_of_ble_eq_true rfl, Nat.le_of_ble_eq_true rfl⟩ (Nat.le_of_ble_eq_true rfl) dL_law_678 (s_X12_law H.2) (fun x113 h114 H => ?_)
      refine a_icmp_eq (tgt := 1329) dL_law_681 (by decide) (fun c => ?_) (fun c => ?_)
      · have H := H.1 (c)
        refine a_iinc (v := v3 + 6) (lv1 := [(0, .ref 0), (1, .ref v1), (2, .ref v2), (3, .int (v3 + 6))]) [1, 2, 3, 0] 3 rfl (by decide) rfl rfl dL_law_1329 ?_
        refine a_goto (tgt := 18) dL_law_1332 (by decide) ?_
        exact hK18 _ _ H
      · have H := H.2 (c)
        refine a_iconst (v := (0 : Int32)) (by decide) dL_law_684 ?_
        exact r_retz rfl bl_0 dL_law_685 H
    by_cases c14 : (x2 &&& (63 : Int32)) = 14
    · have H := H.2.2.2.2.2.2.2.2.2.2.2.2.2.2.1 c14
      refine r_tab (off := 653) (tgt := 686) dL_law_33 c14 (by decide) (by decide) rfl (by decide) ?_
      refine a_aload_n 1 rfl rfl dL_law_686 ?_
      refine a_aload_n 0 rfl rfl dL_law_687 ?_
      refine a_iload_n 3 rfl rfl dL_law_688 ?_
      refine a_iconst (v := (1 : Int32)) (by decide) dL_law_689 ?_
      refine a_iadd dL_law_690 ?_
      refine r_lX dL_law_691 H (fun x115 H => ?_)
      refine r_Vi (q := (RX11, TX11, 16)) (av := [.int x115]) (rest := []) rfl rfl okX11_walk H.1 rfl rfl wd677 wd678 wd679 ⟨Nat.le_of_ble_eq_true rfl, Nat.le_of_ble_eq_true rfl⟩ (Nat.le_of_ble_eq_true rfl) dL_law_692 (s_X11_walk H.2) (fun x116 h117 H => ?_)
      refine a_aload_n 2 rfl rfl dL_law_695 ?_
      refine a_aload_n 0 rfl rfl dL_law_696 ?_
      refine a_iload_n 3 rfl rfl dL_law_697 ?_
      refine a_iconst (v := (1 : Int32)) (by decide) dL_law_698 ?_
      refine a_iadd dL_law_699 ?_
      refine r_lX dL_law_700 H (fun x118 H => ?_)
      refine r_Vi (q := (RX12, TX12, 51)) (av := [.int x118]) (rest := [.int x116]) rfl rfl okX12_walk H.1 rfl rfl wd1343 wd1344 wd1345 ⟨Nat.le_of_ble_eq_true rfl, Nat.le_of_ble_eq_true rfl⟩ (Nat.le_of_ble_eq_true rfl) dL_law_701 (s_X12_walk H.2) (fun x119 h120 H => ?_)
      refine a_icmp_eq (tgt := 1329) dL_law_704 (by decide) (fun c => ?_) (fun c => ?_)
      · have H := H.1 (c)
        refine a_iinc (v := v3 + 6) (lv1 := [(0, .ref 0), (1, .ref v1), (2, .ref v2), (3, .int (v3 + 6))]) [1, 2, 3, 0] 3 rfl (by decide) rfl rfl dL_law_1329 ?_
        refine a_goto (tgt := 18) dL_law_1332 (by decide) ?_
        exact hK18 _ _ H
      · have H := H.2 (c)
        refine a_iconst (v := (0 : Int32)) (by decide) dL_law_707 ?_
        exact r_retz rfl bl_0 dL_law_708 H
    by_cases c15 : (x2 &&& (63 : Int32)) = 15
    · have H := H.2.2.2.2.2.2.2.2.2.2.2.2.2.2.2.1 c15
      refine r_tab (off := 676) (tgt := 709) dL_law_33 c15 (by decide) (by decide) rfl (by decide) ?_
      refine a_aload_n 1 rfl rfl dL_law_709 ?_
      refine a_aload_n 0 rfl rfl dL_law_710 ?_
      refine a_iload_n 3 rfl rfl dL_law_711 ?_
      refine a_iconst (v := (1 : Int32)) (by decide) dL_law_712 ?_
      refine a_iadd dL_law_713 ?_
      refine r_lX dL_law_714 H (fun x121 H => ?_)
      refine r_Vi (q := (RX11, TX11, 16)) (av := [.int x121]) (rest := []) rfl rfl okX11_pays H.1 rfl rfl wd710 wd711 wd712 ⟨Nat.le_of_ble_eq_true rfl, Nat.le_of_ble_eq_true rfl⟩ (Nat.le_of_ble_eq_true rfl) dL_law_715 (s_X11_pays H.2) (fun x122 h123 H => ?_)
      refine a_aload_n 2 rfl rfl dL_law_718 ?_
      refine a_aload_n 0 rfl rfl dL_law_719 ?_
      refine a_iload_n 3 rfl rfl dL_law_720 ?_
      refine a_iconst (v := (1 : Int32)) (by decide) dL_law_721 ?_
      refine a_iadd dL_law_722 ?_
      refine r_lX dL_law_723 H (fun x124 H => ?_)
      refine r_Vi (q := (RX12, TX12, 51)) (av := [.int x124]) (rest := [.int x122]) rfl rfl okX12_pays H.1 rfl rfl wd1351 wd1352 wd1353 ⟨Nat.le_of_ble_eq_true rfl, Nat.le_of_ble_eq_true rfl⟩ (Nat.le_of_ble_eq_true rfl) dL_law_724 (s_X12_pays H.2) (fun x125 h126 H => ?_)
      refine a_icmp_eq (tgt := 1329) dL_law_727 (by decide) (fun c => ?_) (fun c => ?_)
      · have H := H.1 (c)
        refine a_iinc (v := v3 + 6) (lv1 := [(0, .ref 0), (1, .ref v1), (2, .ref v2), (3, .int (v3 + 6))]) [1, 2, 3, 0] 3 rfl (by decide) rfl rfl dL_law_1329 ?_
        refine a_goto (tgt := 18) dL_law_1332 (by decide) ?_
        exact hK18 _ _ H
      · have H := H.2 (c)
        refine a_iconst (v := (0 : Int32)) (by decide) dL_law_730 ?_
        exact r_retz rfl bl_0 dL_law_731 H
    by_cases c16 : (x2 &&& (63 : Int32)) = 16
    · have H := H.2.2.2.2.2.2.2.2.2.2.2.2.2.2.2.2.1 c16
      refine r_tab (off := 699) (tgt := 732) dL_law_33 c16 (by decide) (by decide) rfl (by decide) ?_
      refine a_aload_n 1 rfl rfl dL_law_732 ?_
      refine a_aload_n 0 rfl rfl dL_law_733 ?_
      refine a_iload_n 3 rfl rfl dL_law_734 ?_
      refine a_iconst (v := (1 : Int32)) (by decide) dL_law_735 ?_
      refine a_iadd dL_law_736 ?_
      refine r_lX dL_law_737 H (fun x127 H => ?_)
      refine r_Vi (q := (RX11, TX11, 16)) (av := [.int x127]) (rest := []) rfl rfl okX11_undo H.1 rfl rfl wd718 wd719 wd720 ⟨Nat.le_of_ble_eq_true rfl, Nat.le_of_ble_eq_true rfl⟩ (Nat.le_of_ble_eq_true rfl) dL_law_738 (s_X11_undo H.2) (fun x128 h129 H => ?_)
      refine a_aload_n 2 rfl rfl dL_law_741 ?_
      refine a_aload_n 0 rfl rfl dL_law_742 ?_
      refine a_iload_n 3 rfl rfl dL_law_743 ?_
      refine a_iconst (v := (1 : Int32)) (by decide) dL_law_744 ?_
      refine a_iadd dL_law_745 ?_
      refine r_lX dL_law_746 H (fun x130 H => ?_)
      refine r_Vi (q := (RX12, TX12, 51)) (av := [.int x130]) (rest := [.int x128]) rfl rfl okX12_undo H.1 rfl rfl wd1359 wd1360 wd1361 ⟨Nat.le_of_ble_eq_true rfl, Nat.le_of_ble_eq_true rfl⟩ (Nat.le_of_ble_eq_true rfl) dL_law_747 (s_X12_undo H.2) (fun x131 h132 H => ?_)
      refine a_icmp_eq (tgt := 1329) dL_law_750 (by decide) (fun c => ?_) (fun c => ?_)
      · have H := H.1 (c)
        refine a_iinc (v := v3 + 6) (lv1 := [(0, .ref 0), (1, .ref v1), (2, .ref v2), (3, .int (v3 + 6))]) [1, 2, 3, 0] 3 rfl (by decide) rfl rfl dL_law_1329 ?_
        refine a_goto (tgt := 18) dL_law_1332 (by decide) ?_
        exact hK18 _ _ H
      · have H := H.2 (c)
        refine a_iconst (v := (0 : Int32)) (by decide) dL_law_753 ?_
        exact r_retz rfl bl_0 dL_law_754 H
    by_cases c17 : (x2 &&& (63 : Int32)) = 17
    · have H := H.2.2.2.2.2.2.2.2.2.2.2.2.2.2.2.2.2.1 c17
      refine r_tab (off := 722) (tgt := 755) dL_law_33 c17 (by decide) (by decide) rfl (by decide) ?_
      refine a_aload_n 1 rfl rfl dL_law_755 ?_
      refine a_aload_n 0 rfl rfl dL_law_756 ?_
      refine a_iload_n 3 rfl rfl dL_law_757 ?_
      refine a_iconst (v := (1 : Int32)) (by decide) dL_law_758 ?_
      refine a_iadd dL_law_759 ?_
      refine r_lX dL_law_760 H (fun x133 H => ?_)
      refine r_Vi (q := (RX11, TX11, 16)) (av := [.int x133]) (rest := []) rfl rfl okX11_walks H.1 rfl rfl wd722 wd723 wd724 ⟨Nat.le_of_ble_eq_true rfl, Nat.le_of_ble_eq_true rfl⟩ (Nat.le_of_ble_eq_true rfl) dL_law_761 (s_X11_walks H.2) (fun x134 h135 H => ?_)
      refine a_aload_n 2 rfl rfl dL_law_764 ?_
      refine a_aload_n 0 rfl rfl dL_law_765 ?_
      refine a_iload_n 3 rfl rfl dL_law_766 ?_
      refine a_iconst (v := (1 : Int32)) (by decide) dL_law_767 ?_
      refine a_iadd dL_law_768 ?_
      refine r_lX dL_law_769 H (fun x136 H => ?_)
      refine r_Vi (q := (RX12, TX12, 51)) (av := [.int x136]) (rest := [.int x134]) rfl rfl okX12_walks H.1 rfl rfl wd1363 wd1364 wd1365 ⟨Nat.le_of_ble_eq_true rfl, Nat.le_of_ble_eq_true rfl⟩ (Nat.le_of_ble_eq_true rfl) dL_law_770 (s_X12_walks H.2) (fun x137 h138 H => ?_)
      refine a_icmp_eq (tgt := 1329) dL_law_773 (by decide) (fun c => ?_) (fun c => ?_)
      · have H := H.1 (c)
        refine a_iinc (v := v3 + 6) (lv1 := [(0, .ref 0), (1, .ref v1), (2, .ref v2), (3, .int (v3 + 6))]) [1, 2, 3, 0] 3 rfl (by decide) rfl rfl dL_law_1329 ?_
        refine a_goto (tgt := 18) dL_law_1332 (by decide) ?_
        exact hK18 _ _ H
      · have H := H.2 (c)
        refine a_iconst (v := (0 : Int32)) (by decide) dL_law_776 ?_
        exact r_retz rfl bl_0 dL_law_777 H
    by_cases c18 : (x2 &&& (63 : Int32)) = 18
    · have H := H.2.2.2.2.2.2.2.2.2.2.2.2.2.2.2.2.2.2.1 c18
      refine r_tab (off := 745) (tgt := 778) dL_law_33 c18 (by decide) (by decide) rfl (by decide) ?_
      refine a_aload_n 1 rfl rfl dL_law_778 ?_
      refine a_aload_n 0 rfl rfl dL_law_779 ?_
      refine a_iload_n 3 rfl rfl dL_law_780 ?_
      refine a_iconst (v := (1 : Int32)) (by decide) dL_law_781 ?_
      refine a_iadd dL_law_782 ?_
      refine r_lX dL_law_783 H (fun x139 H => ?_)
      refine r_Vi (q := (RX11, TX11, 16)) (av := [.int x139]) (rest := []) rfl rfl okX11_where H.1 rfl rfl wd726 wd727 wd728 ⟨Nat.le_of_ble_eq_true rfl, Nat.le_of_ble_eq_true rfl⟩ (Nat.le_of_ble_eq_true rfl) dL_law_784 (s_X11_where H.2) (fun x140 h141 H => ?_)
      refine a_aload_n 2 rfl rfl dL_law_787 ?_
      refine a_aload_n 0 rfl rfl dL_law_788 ?_
      refine a_iload_n 3 rfl rfl dL_law_789 ?_
      refine a_iconst (v := (1 : Int32)) (by decide) dL_law_790 ?_
      refine a_iadd dL_law_791 ?_
      refine r_lX dL_law_792 H (fun x142 H => ?_)
      refine r_Vi (q := (RX12, TX12, 51)) (av := [.int x142]) (rest := [.int x140]) rfl rfl okX12_where H.1 rfl rfl wd1367 wd1368 wd1369 ⟨Nat.le_of_ble_eq_true rfl, Nat.le_of_ble_eq_true rfl⟩ (Nat.le_of_ble_eq_true rfl) dL_law_793 (s_X12_where H.2) (fun x143 h144 H => ?_)
      refine a_icmp_eq (tgt := 1329) dL_law_796 (by decide) (fun c => ?_) (fun c => ?_)
      · have H := H.1 (c)
        refine a_iinc (v := v3 + 6) (lv1 := [(0, .ref 0), (1, .ref v1), (2, .ref v2), (3, .int (v3 + 6))]) [1, 2, 3, 0] 3 rfl (by decide) rfl rfl dL_law_1329 ?_
        refine a_goto (tgt := 18) dL_law_1332 (by decide) ?_
        exact hK18 _ _ H
      · have H := H.2 (c)
        refine a_iconst (v := (0 : Int32)) (by decide) dL_law_799 ?_
        exact r_retz rfl bl_0 dL_law_800 H
    by_cases c19 : (x2 &&& (63 : Int32)) = 19
    · have H := H.2.2.2.2.2.2.2.2.2.2.2.2.2.2.2.2.2.2.2.1 c19
      refine r_tab (off := 768) (tgt := 801) dL_law_33 c19 (by decide) (by decide) rfl (by decide) ?_
      refine a_aload_n 1 rfl rfl dL_law_801 ?_
      refine r_Vi (q := (RX11, TX11, 16)) (av := []) (rest := []) rfl rfl okX11_apart H.1 rfl rfl wd738 wd739 wd740 ⟨Nat.le_of_ble_eq_true rfl, Nat.le_of_ble_eq_true rfl⟩ (Nat.le_of_ble_eq_true rfl) dL_law_802 (s_X11_apart H.2) (fun x145 h146 H => ?_)
      refine a_aload_n 2 rfl rfl dL_law_805 ?_
      refine r_Vi (q := (RX12, TX12, 51)) (av := []) (rest := [.int x145]) rfl rfl okX12_apart H.1 rfl rfl wd1371 wd1372 wd1373 ⟨Nat.le_of_ble_eq_true rfl, Nat.le_of_ble_eq_true rfl⟩ (Nat.le_of_ble_eq_true rfl) dL_law_806 (s_X12_apart H.2) (fun x147 h148 H => ?_)
      refine a_icmp_eq (tgt := 1329) dL_law_809 (by decide) (fun c => ?_) (fun c => ?_)
      · have H := H.1 (c)
        refine a_iinc (v := v3 + 6) (lv1 := [(0, .ref 0), (1, .ref v1), (2, .ref v2), (3, .int (v3 + 6))]) [1, 2, 3, 0] 3 rfl (by decide) rfl rfl dL_law_1329 ?_
        refine a_goto (tgt := 18) dL_law_1332 (by decide) ?_
        exact hK18 _ _ H
      · have H := H.2 (c)
        refine a_iconst (v := (0 : Int32)) (by decide) dL_law_812 ?_
        exact r_retz rfl bl_0 dL_law_813 H
    by_cases c20 : (x2 &&& (63 : Int32)) = 20
    · have H := H.2.2.2.2.2.2.2.2.2.2.2.2.2.2.2.2.2.2.2.2.1 c20
      refine r_tab (off := 781) (tgt := 814) dL_law_33 c20 (by decide) (by decide) rfl (by decide) ?_
      refine a_aload_n 1 rfl rfl dL_law_814 ?_
      refine a_aload_n 0 rfl rfl dL_law_815 ?_
      refine a_iload_n 3 rfl rfl dL_law_816 ?_
      refine a_iconst (v := (1 : Int32)) (by decide) dL_law_817 ?_
      refine a_iadd dL_law_818 ?_
      refine r_lX dL_law_819 H (fun x149 H => ?_)
      refine r_Vi (q := (RX11, TX11, 16)) (av := [.int x149]) (rest := []) rfl rfl okX11_keep H.1 rfl rfl wd746 wd747 wd748 ⟨Nat.le_of_ble_eq_true rfl, Nat.le_of_ble_eq_true rfl⟩ (Nat.le_of_ble_eq_true rfl) dL_law_820 (s_X11_keep H.2) (fun x150 h151 H => ?_)
      refine a_aload_n 2 rfl rfl dL_law_823 ?_
      refine a_aload_n 0 rfl rfl dL_law_824 ?_
      refine a_iload_n 3 rfl rfl dL_law_825 ?_
      refine a_iconst (v := (1 : Int32)) (by decide) dL_law_826 ?_
      refine a_iadd dL_law_827 ?_
      refine r_lX dL_law_828 H (fun x152 H => ?_)
      refine r_Vi (q := (RX12, TX12, 51)) (av := [.int x152]) (rest := [.int x150]) rfl rfl okX12_keep H.1 rfl rfl wd1379 wd1380 wd1381 ⟨Nat.le_of_ble_eq_true rfl, Nat.le_of_ble_eq_true rfl⟩ (Nat.le_of_ble_eq_true rfl) dL_law_829 (s_X12_keep H.2) (fun x153 h154 H => ?_)
      refine a_icmp_eq (tgt := 1329) dL_law_832 (by decide) (fun c => ?_) (fun c => ?_)
      · have H := H.1 (c)
        refine a_iinc (v := v3 + 6) (lv1 := [(0, .ref 0), (1, .ref v1), (2, .ref v2), (3, .int (v3 + 6))]) [1, 2, 3, 0] 3 rfl (by decide) rfl rfl dL_law_1329 ?_
        refine a_goto (tgt := 18) dL_law_1332 (by decide) ?_
        exact hK18 _ _ H
      · have H := H.2 (c)
        refine a_iconst (v := (0 : Int32)) (by decide) dL_law_835 ?_
        exact r_retz rfl bl_0 dL_law_836 H
    by_cases c21 : (x2 &&& (63 : Int32)) = 21
    · have H := H.2.2.2.2.2.2.2.2.2.2.2.2.2.2.2.2.2.2.2.2.2.1 c21
      refine r_tab (off := 804) (tgt := 837) dL_law_33 c21 (by decide) (by decide) rfl (by decide) ?_
      refine a_aload_n 1 rfl rfl dL_law_837 ?_
      refine a_aload_n 0 rfl rfl dL_law_838 ?_
      refine a_iload_n 3 rfl rfl dL_law_839 ?_
      refine a_iconst (v := (1 : Int32)) (by decide) dL_law_840 ?_
      refine a_iadd dL_law_841 ?_
      refine r_lX dL_law_842 H (fun x155 H => ?_)
      refine r_Vi (q := (RX11, TX11, 16)) (av := [.int x155]) (rest := []) rfl rfl okX11_on H.1 rfl rfl wd750 wd751 wd752 ⟨Nat.le_of_ble_eq_true rfl, Nat.le_of_ble_eq_true rfl⟩ (Nat.le_of_ble_eq_true rfl) dL_law_843 (s_X11_on H.2) (fun x156 h157 H => ?_)
      refine a_aload_n 2 rfl rfl dL_law_846 ?_
      refine a_aload_n 0 rfl rfl dL_law_847 ?_
      refine a_iload_n 3 rfl rfl dL_law_848 ?_
      refine a_iconst (v := (1 : Int32)) (by decide) dL_law_849 ?_
      refine a_iadd dL_law_850 ?_
      refine r_lX dL_law_851 H (fun x158 H => ?_)
      refine r_Vi (q := (RX12, TX12, 51)) (av := [.int x158]) (rest := [.int x156]) rfl rfl okX12_on H.1 rfl rfl wd1383 wd1384 wd1385 ⟨Nat.le_of_ble_eq_true rfl, Nat.le_of_ble_eq_true rfl⟩ (Nat.le_of_ble_eq_true rfl) dL_law_852 (s_X12_on H.2) (fun x159 h160 H => ?_)
      refine a_icmp_eq (tgt := 1329) dL_law_855 (by decide) (fun c => ?_) (fun c => ?_)
      · have H := H.1 (c)
        refine a_iinc (v := v3 + 6) (lv1 := [(0, .ref 0), (1, .ref v1), (2, .ref v2), (3, .int (v3 + 6))]) [1, 2, 3, 0] 3 rfl (by decide) rfl rfl dL_law_1329 ?_
        refine a_goto (tgt := 18) dL_law_1332 (by decide) ?_
        exact hK18 _ _ H
      · have H := H.2 (c)
        refine a_iconst (v := (0 : Int32)) (by decide) dL_law_858 ?_
        exact r_retz rfl bl_0 dL_law_859 H
    by_cases c22 : (x2 &&& (63 : Int32)) = 22
    · have H := H.2.2.2.2.2.2.2.2.2.2.2.2.2.2.2.2.2.2.2.2.2.2.1 c22
      refine r_tab (off := 827) (tgt := 860) dL_law_33 c22 (by decide) (by decide) rfl (by decide) ?_
      refine a_aload_n 1 rfl rfl dL_law_860 ?_
      refine a_aload_n 0 rfl rfl dL_law_861 ?_
      refine a_iload_n 3 rfl rfl dL_law_862 ?_
      refine a_iconst (v := (1 : Int32)) (by decide) dL_law_863 ?_
      refine a_iadd dL_law_864 ?_
      refine r_lX dL_law_865 H (fun x161 H => ?_)
      refine r_Vi (q := (RX11, TX11, 16)) (av := [.int x161]) (rest := []) rfl rfl okX11_sees H.1 rfl rfl wd754 wd755 wd756 ⟨Nat.le_of_ble_eq_true rfl, Nat.le_of_ble_eq_true rfl⟩ (Nat.le_of_ble_eq_true rfl) dL_law_866 (s_X11_sees H.2) (fun x162 h163 H => ?_)
      refine a_aload_n 2 rfl rfl dL_law_869 ?_
      refine a_aload_n 0 rfl rfl dL_law_870 ?_
      refine a_iload_n 3 rfl rfl dL_law_871 ?_
      refine a_iconst (v := (1 : Int32)) (by decide) dL_law_872 ?_
      refine a_iadd dL_law_873 ?_
      refine r_lX dL_law_874 H (fun x164 H => ?_)
      refine r_Vi (q := (RX12, TX12, 51)) (av := [.int x164]) (rest := [.int x162]) rfl rfl okX12_sees H.1 rfl rfl wd1387 wd1388 wd1389 ⟨Nat.le_of_ble_eq_true rfl, Nat.le_of_ble_eq_true rfl⟩ (Nat.le_of_ble_eq_true rfl) dL_law_875 (s_X12_sees H.2) (fun x165 h166 H => ?_)
      refine a_icmp_eq (tgt := 1329) dL_law_878 (by decide) (fun c => ?_) (fun c => ?_)
      · have H := H.1 (c)
        refine a_iinc (v := v3 + 6) (lv1 := [(0, .ref 0), (1, .ref v1), (2, .ref v2), (3, .int (v3 + 6))]) [1, 2, 3, 0] 3 rfl (by decide) rfl rfl dL_law_1329 ?_
        refine a_goto (tgt := 18) dL_law_1332 (by decide) ?_
        exact hK18 _ _ H
      · have H := H.2 (c)
        refine a_iconst (v := (0 : Int32)) (by decide) dL_law_881 ?_
        exact r_retz rfl bl_0 dL_law_882 H
    by_cases c23 : (x2 &&& (63 : Int32)) = 23
    · have H := H.2.2.2.2.2.2.2.2.2.2.2.2.2.2.2.2.2.2.2.2.2.2.2.1 c23
      refine r_tab (off := 850) (tgt := 883) dL_law_33 c23 (by decide) (by decide) rfl (by decide) ?_
      refine a_aload_n 1 rfl rfl dL_law_883 ?_
      refine a_aload_n 0 rfl rfl dL_law_884 ?_
      refine a_iload_n 3 rfl rfl dL_law_885 ?_
      refine a_iconst (v := (1 : Int32)) (by decide) dL_law_886 ?_
      refine a_iadd dL_law_887 ?_
      refine r_lX dL_law_888 H (fun x167 H => ?_)
      refine r_Vi (q := (RX11, TX11, 16)) (av := [.int x167]) (rest := []) rfl rfl okX11_may H.1 rfl rfl wd763 wd764 wd765 ⟨Nat.le_of_ble_eq_true rfl, Nat.le_of_ble_eq_true rfl⟩ (Nat.le_of_ble_eq_true rfl) dL_law_889 (s_X11_may H.2) (fun x168 h169 H => ?_)
      refine a_aload_n 2 rfl rfl dL_law_892 ?_
      refine a_aload_n 0 rfl rfl dL_law_893 ?_
      refine a_iload_n 3 rfl rfl dL_law_894 ?_
      refine a_iconst (v := (1 : Int32)) (by decide) dL_law_895 ?_
      refine a_iadd dL_law_896 ?_
      refine r_lX dL_law_897 H (fun x170 H => ?_)
      refine r_Vi (q := (RX12, TX12, 51)) (av := [.int x170]) (rest := [.int x168]) rfl rfl okX12_may H.1 rfl rfl wd1399 wd1400 wd1401 ⟨Nat.le_of_ble_eq_true rfl, Nat.le_of_ble_eq_true rfl⟩ (Nat.le_of_ble_eq_true rfl) dL_law_898 (s_X12_may H.2) (fun x171 h172 H => ?_)
      refine a_icmp_eq (tgt := 1329) dL_law_901 (by decide) (fun c => ?_) (fun c => ?_)
      · have H := H.1 (c)
        refine a_iinc (v := v3 + 6) (lv1 := [(0, .ref 0), (1, .ref v1), (2, .ref v2), (3, .int (v3 + 6))]) [1, 2, 3, 0] 3 rfl (by decide) rfl rfl dL_law_1329 ?_
        refine a_goto (tgt := 18) dL_law_1332 (by decide) ?_
        exact hK18 _ _ H
      · have H := H.2 (c)
        refine a_iconst (v := (0 : Int32)) (by decide) dL_law_904 ?_
        exact r_retz rfl bl_0 dL_law_905 H
    by_cases c24 : (x2 &&& (63 : Int32)) = 24
    · have H := H.2.2.2.2.2.2.2.2.2.2.2.2.2.2.2.2.2.2.2.2.2.2.2.2.1 c24
      refine r_tab (off := 873) (tgt := 906) dL_law_33 c24 (by decide) (by decide) rfl (by decide) ?_
      refine a_aload_n 1 rfl rfl dL_law_906 ?_
      refine a_aload_n 0 rfl rfl dL_law_907 ?_
      refine a_iload_n 3 rfl rfl dL_law_908 ?_
      refine a_iconst (v := (1 : Int32)) (by decide) dL_law_909 ?_
      refine a_iadd dL_law_910 ?_
      refine r_lX dL_law_911 H (fun x173 H => ?_)
      refine a_aload_n 0 rfl rfl dL_law_912 ?_
      refine a_iload_n 3 rfl rfl dL_law_913 ?_
      refine a_iconst (v := (2 : Int32)) (by decide) dL_law_914 ?_
      refine a_iadd dL_law_915 ?_
      refine r_lX dL_law_916 H (fun x174 H => ?_)
      refine r_Vi (q := (RX11, TX11, 16)) (av := [.int x173, .int x174]) (rest := []) rfl rfl okX11_standings H.1 rfl rfl wd771 wd772 wd773 ⟨Nat.le_of_ble_eq_true rfl, Nat.le_of_ble_eq_true rfl⟩ (Nat.le_of_ble_eq_true rfl) dL_law_917 (s_X11_standings H.2) (fun x175 h176 H => ?_)
      refine a_aload_n 2 rfl rfl dL_law_920 ?_
      refine a_aload_n 0 rfl rfl dL_law_921 ?_
      refine a_iload_n 3 rfl rfl dL_law_922 ?_
      refine a_iconst (v := (1 : Int32)) (by decide) dL_law_923 ?_
      refine a_iadd dL_law_924 ?_
      refine r_lX dL_law_925 H (fun x177 H => ?_)
      refine a_aload_n 0 rfl rfl dL_law_926 ?_
      refine a_iload_n 3 rfl rfl dL_law_927 ?_
      refine a_iconst (v := (2 : Int32)) (by decide) dL_law_928 ?_
      refine a_iadd dL_law_929 ?_
      refine r_lX dL_law_930 H (fun x178 H => ?_)
      refine r_Vi (q := (RX12, TX12, 51)) (av := [.int x177, .int x178]) (rest := [.int x175]) rfl rfl okX12_standings H.1 rfl rfl wd1404 wd1405 wd1406 ⟨Nat.le_of_ble_eq_true rfl, Nat.le_of_ble_eq_true rfl⟩ (Nat.le_of_ble_eq_true rfl) dL_law_931 (s_X12_standings H.2) (fun x179 h180 H => ?_)
      refine a_icmp_eq (tgt := 1329) dL_law_934 (by decide) (fun c => ?_) (fun c => ?_)
      · have H := H.1 (c)
        refine a_iinc (v := v3 + 6) (lv1 := [(0, .ref 0), (1, .ref v1), (2, .ref v2), (3, .int (v3 + 6))]) [1, 2, 3, 0] 3 rfl (by decide) rfl rfl dL_law_1329 ?_
        refine a_goto (tgt := 18) dL_law_1332 (by decide) ?_
        exact hK18 _ _ H
      · have H := H.2 (c)
        refine a_iconst (v := (0 : Int32)) (by decide) dL_law_937 ?_
        exact r_retz rfl bl_0 dL_law_938 H
    by_cases c25 : (x2 &&& (63 : Int32)) = 25
    · have H := H.2.2.2.2.2.2.2.2.2.2.2.2.2.2.2.2.2.2.2.2.2.2.2.2.2.1 c25
      refine r_tab (off := 906) (tgt := 939) dL_law_33 c25 (by decide) (by decide) rfl (by decide) ?_
      refine a_aload_n 1 rfl rfl dL_law_939 ?_
      refine a_aload_n 0 rfl rfl dL_law_940 ?_
      refine a_iload_n 3 rfl rfl dL_law_941 ?_
      refine a_iconst (v := (1 : Int32)) (by decide) dL_law_942 ?_
      refine a_iadd dL_law_943 ?_
      refine r_lX dL_law_944 H (fun x181 H => ?_)
      refine r_Vi (q := (RX11, TX11, 16)) (av := [.int x181]) (rest := []) rfl rfl okX11_look H.1 rfl rfl wd810 wd811 wd812 ⟨Nat.le_of_ble_eq_true rfl, Nat.le_of_ble_eq_true rfl⟩ (Nat.le_of_ble_eq_true rfl) dL_law_945 (s_X11_look H.2) (fun x182 h183 H => ?_)
      refine a_aload_n 2 rfl rfl dL_law_948 ?_
      refine a_aload_n 0 rfl rfl dL_law_949 ?_
      refine a_iload_n 3 rfl rfl dL_law_950 ?_
      refine a_iconst (v := (1 : Int32)) (by decide) dL_law_951 ?_
      refine a_iadd dL_law_952 ?_
      refine r_lX dL_law_953 H (fun x184 H => ?_)
      refine r_Vi (q := (RX12, TX12, 51)) (av := [.int x184]) (rest := [.int x182]) rfl rfl okX12_look H.1 rfl rfl wd1420 wd1421 wd1422 ⟨Nat.le_of_ble_eq_true rfl, Nat.le_of_ble_eq_true rfl⟩ (Nat.le_of_ble_eq_true rfl) dL_law_954 (s_X12_look H.2) (fun x185 h186 H => ?_)
      refine a_icmp_eq (tgt := 1329) dL_law_957 (by decide) (fun c => ?_) (fun c => ?_)
      · have H := H.1 (c)
        refine a_iinc (v := v3 + 6) (lv1 := [(0, .ref 0), (1, .ref v1), (2, .ref v2), (3, .int (v3 + 6))]) [1, 2, 3, 0] 3 rfl (by decide) rfl rfl dL_law_1329 ?_
        refine a_goto (tgt := 18) dL_law_1332 (by decide) ?_
        exact hK18 _ _ H
      · have H := H.2 (c)
        refine a_iconst (v := (0 : Int32)) (by decide) dL_law_960 ?_
        exact r_retz rfl bl_0 dL_law_961 H
    by_cases c26 : (x2 &&& (63 : Int32)) = 26
    · have H := H.2.2.2.2.2.2.2.2.2.2.2.2.2.2.2.2.2.2.2.2.2.2.2.2.2.2.1 c26
      refine r_tab (off := 929) (tgt := 962) dL_law_33 c26 (by decide) (by decide) rfl (by decide) ?_
      refine a_aload_n 1 rfl rfl dL_law_962 ?_
      refine r_Vi (q := (RX11, TX11, 16)) (av := []) (rest := []) rfl rfl okX11_fewest H.1 rfl rfl wd821 wd822 wd823 ⟨Nat.le_of_ble_eq_true rfl, Nat.le_of_ble_eq_true rfl⟩ (Nat.le_of_ble_eq_true rfl) dL_law_963 (s_X11_fewest H.2) (fun x187 h188 H => ?_)
      refine a_aload_n 2 rfl rfl dL_law_966 ?_
      refine r_Vi (q := (RX12, TX12, 51)) (av := []) (rest := [.int x187]) rfl rfl okX12_fewest H.1 rfl rfl wd1424 wd1425 wd1426 ⟨Nat.le_of_ble_eq_true rfl, Nat.le_of_ble_eq_true rfl⟩ (Nat.le_of_ble_eq_true rfl) dL_law_967 (s_X12_fewest H.2) (fun x189 h190 H => ?_)
      refine a_icmp_eq (tgt := 1329) dL_law_970 (by decide) (fun c => ?_) (fun c => ?_)
      · have H := H.1 (c)
        refine a_iinc (v := v3 + 6) (lv1 := [(0, .ref 0), (1, .ref v1), (2, .ref v2), (3, .int (v3 + 6))]) [1, 2, 3, 0] 3 rfl (by decide) rfl rfl dL_law_1329 ?_
        refine a_goto (tgt := 18) dL_law_1332 (by decide) ?_
        exact hK18 _ _ H
      · have H := H.2 (c)
        refine a_iconst (v := (0 : Int32)) (by decide) dL_law_973 ?_
        exact r_retz rfl bl_0 dL_law_974 H
    by_cases c27 : (x2 &&& (63 : Int32)) = 27
    · have H := H.2.2.2.2.2.2.2.2.2.2.2.2.2.2.2.2.2.2.2.2.2.2.2.2.2.2.2.1 c27
      refine r_tab (off := 942) (tgt := 975) dL_law_33 c27 (by decide) (by decide) rfl (by decide) ?_
      refine a_aload_n 1 rfl rfl dL_law_975 ?_
      refine a_aload_n 0 rfl rfl dL_law_976 ?_
      refine a_iload_n 3 rfl rfl dL_law_977 ?_
      refine a_iconst (v := (1 : Int32)) (by decide) dL_law_978 ?_
      refine a_iadd dL_law_979 ?_
      refine r_lX dL_law_980 H (fun x191 H => ?_)
      refine r_Vi (q := (RX11, TX11, 16)) (av := [.int x191]) (rest := []) rfl rfl okX11_way H.1 rfl rfl wd859 wd860 wd861 ⟨Nat.le_of_ble_eq_true rfl, Nat.le_of_ble_eq_true rfl⟩ (Nat.le_of_ble_eq_true rfl) dL_law_981 (s_X11_way H.2) (fun x192 h193 H => ?_)
      refine a_aload_n 2 rfl rfl dL_law_984 ?_
      refine a_aload_n 0 rfl rfl dL_law_985 ?_
      refine a_iload_n 3 rfl rfl dL_law_986 ?_
      refine a_iconst (v := (1 : Int32)) (by decide) dL_law_987 ?_
      refine a_iadd dL_law_988 ?_
      refine r_lX dL_law_989 H (fun x194 H => ?_)
      refine r_Vi (q := (RX12, TX12, 51)) (av := [.int x194]) (rest := [.int x192]) rfl rfl okX12_way H.1 rfl rfl wd1440 wd1441 wd1442 ⟨Nat.le_of_ble_eq_true rfl, Nat.le_of_ble_eq_true rfl⟩ (Nat.le_of_ble_eq_true rfl) dL_law_990 (s_X12_way H.2) (fun x195 h196 H => ?_)
      refine a_icmp_eq (tgt := 1329) dL_law_993 (by decide) (fun c => ?_) (fun c => ?_)
      · have H := H.1 (c)
        refine a_iinc (v := v3 + 6) (lv1 := [(0, .ref 0), (1, .ref v1), (2, .ref v2), (3, .int (v3 + 6))]) [1, 2, 3, 0] 3 rfl (by decide) rfl rfl dL_law_1329 ?_
        refine a_goto (tgt := 18) dL_law_1332 (by decide) ?_
        exact hK18 _ _ H
      · have H := H.2 (c)
        refine a_iconst (v := (0 : Int32)) (by decide) dL_law_996 ?_
        exact r_retz rfl bl_0 dL_law_997 H
    by_cases c28 : (x2 &&& (63 : Int32)) = 28
    · have H := H.2.2.2.2.2.2.2.2.2.2.2.2.2.2.2.2.2.2.2.2.2.2.2.2.2.2.2.2.1 c28
      refine r_tab (off := 965) (tgt := 998) dL_law_33 c28 (by decide) (by decide) rfl (by decide) ?_
      refine a_aload_n 1 rfl rfl dL_law_998 ?_
      refine r_Vi (q := (RX11, TX11, 16)) (av := []) (rest := []) rfl rfl okX11_all H.1 rfl rfl wd868 wd869 wd870 ⟨Nat.le_of_ble_eq_true rfl, Nat.le_of_ble_eq_true rfl⟩ (Nat.le_of_ble_eq_true rfl) dL_law_999 (s_X11_all H.2) (fun x197 h198 H => ?_)
      refine a_aload_n 2 rfl rfl dL_law_1002 ?_
      refine r_Vi (q := (RX12, TX12, 51)) (av := []) (rest := [.int x197]) rfl rfl okX12_all H.1 rfl rfl wd1444 wd1445 wd1446 ⟨Nat.le_of_ble_eq_true rfl, Nat.le_of_ble_eq_true rfl⟩ (Nat.le_of_ble_eq_true rfl) dL_law_1003 (s_X12_all H.2) (fun x199 h200 H => ?_)
      refine a_icmp_eq (tgt := 1329) dL_law_1006 (by decide) (fun c => ?_) (fun c => ?_)
      · have H := H.1 (c)
        refine a_iinc (v := v3 + 6) (lv1 := [(0, .ref 0), (1, .ref v1), (2, .ref v2), (3, .int (v3 + 6))]) [1, 2, 3, 0] 3 rfl (by decide) rfl rfl dL_law_1329 ?_
        refine a_goto (tgt := 18) dL_law_1332 (by decide) ?_
        exact hK18 _ _ H
      · have H := H.2 (c)
        refine a_iconst (v := (0 : Int32)) (by decide) dL_law_1009 ?_
        exact r_retz rfl bl_0 dL_law_1010 H
    by_cases c29 : (x2 &&& (63 : Int32)) = 29
    · have H := H.2.2.2.2.2.2.2.2.2.2.2.2.2.2.2.2.2.2.2.2.2.2.2.2.2.2.2.2.2.1 c29
      refine r_tab (off := 978) (tgt := 1011) dL_law_33 c29 (by decide) (by decide) rfl (by decide) ?_
      refine a_aload_n 1 rfl rfl dL_law_1011 ?_
      refine r_Vi (q := (RX11, TX11, 16)) (av := []) (rest := []) rfl rfl okX11_best H.1 rfl rfl wd880 wd881 wd882 ⟨Nat.le_of_ble_eq_true rfl, Nat.le_of_ble_eq_true rfl⟩ (Nat.le_of_ble_eq_true rfl) dL_law_1012 (s_X11_best H.2) (fun x201 h202 H => ?_)
      refine a_aload_n 2 rfl rfl dL_law_1015 ?_
      refine r_Vi (q := (RX12, TX12, 51)) (av := []) (rest := [.int x201]) rfl rfl okX12_best H.1 rfl rfl wd1448 wd1449 wd1450 ⟨Nat.le_of_ble_eq_true rfl, Nat.le_of_ble_eq_true rfl⟩ (Nat.le_of_ble_eq_true rfl) dL_law_1016 (s_X12_best H.2) (fun x203 h204 H => ?_)
      refine a_icmp_eq (tgt := 1329) dL_law_1019 (by decide) (fun c => ?_) (fun c => ?_)
      · have H := H.1 (c)
        refine a_iinc (v := v3 + 6) (lv1 := [(0, .ref 0), (1, .ref v1), (2, .ref v2), (3, .int (v3 + 6))]) [1, 2, 3, 0] 3 rfl (by decide) rfl rfl dL_law_1329 ?_
        refine a_goto (tgt := 18) dL_law_1332 (by decide) ?_
        exact hK18 _ _ H
      · have H := H.2 (c)
        refine a_iconst (v := (0 : Int32)) (by decide) dL_law_1022 ?_
        exact r_retz rfl bl_0 dL_law_1023 H
    by_cases c30 : (x2 &&& (63 : Int32)) = 30
    · have H := H.2.2.2.2.2.2.2.2.2.2.2.2.2.2.2.2.2.2.2.2.2.2.2.2.2.2.2.2.2.2.1 c30
      refine r_tab (off := 991) (tgt := 1024) dL_law_33 c30 (by decide) (by decide) rfl (by decide) ?_
      refine a_aload_n 1 rfl rfl dL_law_1024 ?_
      refine r_Vi (q := (RX11, TX11, 16)) (av := []) (rest := []) rfl rfl okX11_nearest H.1 rfl rfl wd884 wd885 wd886 ⟨Nat.le_of_ble_eq_true rfl, Nat.le_of_ble_eq_true rfl⟩ (Nat.le_of_ble_eq_true rfl) dL_law_1025 (s_X11_nearest H.2) (fun x205 h206 H => ?_)
      refine a_aload_n 2 rfl rfl dL_law_1028 ?_
      refine r_Vi (q := (RX12, TX12, 51)) (av := []) (rest := [.int x205]) rfl rfl okX12_nearest H.1 rfl rfl wd1452 wd1453 wd1454 ⟨Nat.le_of_ble_eq_true rfl, Nat.le_of_ble_eq_true rfl⟩ (Nat.le_of_ble_eq_true rfl) dL_law_1029 (s_X12_nearest H.2) (fun x207 h208 H => ?_)
      refine a_icmp_eq (tgt := 1329) dL_law_1032 (by decide) (fun c => ?_) (fun c => ?_)
      · have H := H.1 (c)
        refine a_iinc (v := v3 + 6) (lv1 := [(0, .ref 0), (1, .ref v1), (2, .ref v2), (3, .int (v3 + 6))]) [1, 2, 3, 0] 3 rfl (by decide) rfl rfl dL_law_1329 ?_
        refine a_goto (tgt := 18) dL_law_1332 (by decide) ?_
        exact hK18 _ _ H
      · have H := H.2 (c)
        refine a_iconst (v := (0 : Int32)) (by decide) dL_law_1035 ?_
        exact r_retz rfl bl_0 dL_law_1036 H
    by_cases c31 : (x2 &&& (63 : Int32)) = 31
    · have H := H.2.2.2.2.2.2.2.2.2.2.2.2.2.2.2.2.2.2.2.2.2.2.2.2.2.2.2.2.2.2.2.1 c31
      refine r_tab (off := 1004) (tgt := 1037) dL_law_33 c31 (by decide) (by decide) rfl (by decide) ?_
      refine a_aload_n 1 rfl rfl dL_law_1037 ?_
      refine a_aload_n 0 rfl rfl dL_law_1038 ?_
      refine a_iload_n 3 rfl rfl dL_law_1039 ?_
      refine a_iconst (v := (1 : Int32)) (by decide) dL_law_1040 ?_
      refine a_iadd dL_law_1041 ?_
      refine r_lX dL_law_1042 H (fun x209 H => ?_)
      refine a_aload_n 0 rfl rfl dL_law_1043 ?_
      refine a_iload_n 3 rfl rfl dL_law_1044 ?_
      refine a_iconst (v := (2 : Int32)) (by decide) dL_law_1045 ?_
      refine a_iadd dL_law_1046 ?_
      refine r_lX dL_law_1047 H (fun x210 H => ?_)
      refine r_Vi (q := (RX11, TX11, 16)) (av := [.int x209, .int x210]) (rest := []) rfl rfl okX11_brings H.1 rfl rfl wd893 wd894 wd895 ⟨Nat.le_of_ble_eq_true rfl, Nat.le_of_ble_eq_true rfl⟩ (Nat.le_of_ble_eq_true rfl) dL_law_1048 (s_X11_brings H.2) (fun x211 h212 H => ?_)
      refine a_aload_n 2 rfl rfl dL_law_1051 ?_
      refine a_aload_n 0 rfl rfl dL_law_1052 ?_
      refine a_iload_n 3 rfl rfl dL_law_1053 ?_
      refine a_iconst (v := (1 : Int32)) (by decide) dL_law_1054 ?_
      refine a_iadd dL_law_1055 ?_
      refine r_lX dL_law_1056 H (fun x213 H => ?_)
      refine a_aload_n 0 rfl rfl dL_law_1057 ?_
      refine a_iload_n 3 rfl rfl dL_law_1058 ?_
      refine a_iconst (v := (2 : Int32)) (by decide) dL_law_1059 ?_
      refine a_iadd dL_law_1060 ?_
      refine r_lX dL_law_1061 H (fun x214 H => ?_)
      refine r_Vi (q := (RX12, TX12, 51)) (av := [.int x213, .int x214]) (rest := [.int x211]) rfl rfl okX12_brings H.1 rfl rfl wd1456 wd1457 wd1458 ⟨Nat.le_of_ble_eq_true rfl, Nat.le_of_ble_eq_true rfl⟩ (Nat.le_of_ble_eq_true rfl) dL_law_1062 (s_X12_brings H.2) (fun x215 h216 H => ?_)
      refine a_icmp_eq (tgt := 1329) dL_law_1065 (by decide) (fun c => ?_) (fun c => ?_)
      · have H := H.1 (c)
        refine a_iinc (v := v3 + 6) (lv1 := [(0, .ref 0), (1, .ref v1), (2, .ref v2), (3, .int (v3 + 6))]) [1, 2, 3, 0] 3 rfl (by decide) rfl rfl dL_law_1329 ?_
        refine a_goto (tgt := 18) dL_law_1332 (by decide) ?_
        exact hK18 _ _ H
      · have H := H.2 (c)
        refine a_iconst (v := (0 : Int32)) (by decide) dL_law_1068 ?_
        exact r_retz rfl bl_0 dL_law_1069 H
    by_cases c32 : (x2 &&& (63 : Int32)) = 32
    · have H := H.2.2.2.2.2.2.2.2.2.2.2.2.2.2.2.2.2.2.2.2.2.2.2.2.2.2.2.2.2.2.2.2.1 c32
      refine r_tab (off := 1037) (tgt := 1070) dL_law_33 c32 (by decide) (by decide) rfl (by decide) ?_
      refine a_aload_n 1 rfl rfl dL_law_1070 ?_
      refine a_aload_n 0 rfl rfl dL_law_1071 ?_
      refine a_iload_n 3 rfl rfl dL_law_1072 ?_
      refine a_iconst (v := (1 : Int32)) (by decide) dL_law_1073 ?_
      refine a_iadd dL_law_1074 ?_
      refine r_lX dL_law_1075 H (fun x217 H => ?_)
      refine r_Vi (q := (RX11, TX11, 16)) (av := [.int x217]) (rest := []) rfl rfl okX11_earn H.1 rfl rfl wd902 wd903 wd904 ⟨Nat.le_of_ble_eq_true rfl, Nat.le_of_ble_eq_true rfl⟩ (Nat.le_of_ble_eq_true rfl) dL_law_1076 (s_X11_earn H.2) (fun x218 h219 H => ?_)
      refine a_aload_n 2 rfl rfl dL_law_1079 ?_
      refine a_aload_n 0 rfl rfl dL_law_1080 ?_
      refine a_iload_n 3 rfl rfl dL_law_1081 ?_
      refine a_iconst (v := (1 : Int32)) (by decide) dL_law_1082 ?_
      refine a_iadd dL_law_1083 ?_
      refine r_lX dL_law_1084 H (fun x220 H => ?_)
      refine r_Vi (q := (RX12, TX12, 51)) (av := [.int x220]) (rest := [.int x218]) rfl rfl okX12_earn H.1 rfl rfl wd1460 wd1461 wd1462 ⟨Nat.le_of_ble_eq_true rfl, Nat.le_of_ble_eq_true rfl⟩ (Nat.le_of_ble_eq_true rfl) dL_law_1085 (s_X12_earn H.2) (fun x221 h222 H => ?_)
      refine a_icmp_eq (tgt := 1329) dL_law_1088 (by decide) (fun c => ?_) (fun c => ?_)
      · have H := H.1 (c)
        refine a_iinc (v := v3 + 6) (lv1 := [(0, .ref 0), (1, .ref v1), (2, .ref v2), (3, .int (v3 + 6))]) [1, 2, 3, 0] 3 rfl (by decide) rfl rfl dL_law_1329 ?_
        refine a_goto (tgt := 18) dL_law_1332 (by decide) ?_
        exact hK18 _ _ H
      · have H := H.2 (c)
        refine a_iconst (v := (0 : Int32)) (by decide) dL_law_1091 ?_
        exact r_retz rfl bl_0 dL_law_1092 H
    by_cases c33 : (x2 &&& (63 : Int32)) = 33
    · have H := H.2.2.2.2.2.2.2.2.2.2.2.2.2.2.2.2.2.2.2.2.2.2.2.2.2.2.2.2.2.2.2.2.2.1 c33
      refine r_tab (off := 1060) (tgt := 1093) dL_law_33 c33 (by decide) (by decide) rfl (by decide) ?_
      refine a_aload_n 1 rfl rfl dL_law_1093 ?_
      refine a_aload_n 0 rfl rfl dL_law_1094 ?_
      refine a_iload_n 3 rfl rfl dL_law_1095 ?_
      refine a_iconst (v := (1 : Int32)) (by decide) dL_law_1096 ?_
      refine a_iadd dL_law_1097 ?_
      refine r_lX dL_law_1098 H (fun x223 H => ?_)
      refine r_Vi (q := (RX11, TX11, 16)) (av := [.int x223]) (rest := []) rfl rfl okX11_moved H.1 rfl rfl wd914 wd915 wd916 ⟨Nat.le_of_ble_eq_true rfl, Nat.le_of_ble_eq_true rfl⟩ (Nat.le_of_ble_eq_true rfl) dL_law_1099 (s_X11_moved H.2) (fun x224 h225 H => ?_)
      refine a_aload_n 2 rfl rfl dL_law_1102 ?_
      refine a_aload_n 0 rfl rfl dL_law_1103 ?_
      refine a_iload_n 3 rfl rfl dL_law_1104 ?_
      refine a_iconst (v := (1 : Int32)) (by decide) dL_law_1105 ?_
      refine a_iadd dL_law_1106 ?_
      refine r_lX dL_law_1107 H (fun x226 H => ?_)
      refine r_Vi (q := (RX12, TX12, 51)) (av := [.int x226]) (rest := [.int x224]) rfl rfl okX12_moved H.1 rfl rfl wd1465 wd1466 wd1467 ⟨Nat.le_of_ble_eq_true rfl, Nat.le_of_ble_eq_true rfl⟩ (Nat.le_of_ble_eq_true rfl) dL_law_1108 (s_X12_moved H.2) (fun x227 h228 H => ?_)
      refine a_icmp_eq (tgt := 1329) dL_law_1111 (by decide) (fun c => ?_) (fun c => ?_)
      · have H := H.1 (c)
        refine a_iinc (v := v3 + 6) (lv1 := [(0, .ref 0), (1, .ref v1), (2, .ref v2), (3, .int (v3 + 6))]) [1, 2, 3, 0] 3 rfl (by decide) rfl rfl dL_law_1329 ?_
        refine a_goto (tgt := 18) dL_law_1332 (by decide) ?_
        exact hK18 _ _ H
      · have H := H.2 (c)
        refine a_iconst (v := (0 : Int32)) (by decide) dL_law_1114 ?_
        exact r_retz rfl bl_0 dL_law_1115 H
    by_cases c34 : (x2 &&& (63 : Int32)) = 34
    · have H := H.2.2.2.2.2.2.2.2.2.2.2.2.2.2.2.2.2.2.2.2.2.2.2.2.2.2.2.2.2.2.2.2.2.2.1 c34
      refine r_tab (off := 1083) (tgt := 1116) dL_law_33 c34 (by decide) (by decide) rfl (by decide) ?_
      refine a_aload_n 1 rfl rfl dL_law_1116 ?_
      refine a_aload_n 0 rfl rfl dL_law_1117 ?_
      refine a_iload_n 3 rfl rfl dL_law_1118 ?_
      refine a_iconst (v := (1 : Int32)) (by decide) dL_law_1119 ?_
      refine a_iadd dL_law_1120 ?_
      refine r_lX dL_law_1121 H (fun x229 H => ?_)
      refine r_Vi (q := (RX11, TX11, 16)) (av := [.int x229]) (rest := []) rfl rfl okX11_who H.1 rfl rfl wd939 wd940 wd941 ⟨Nat.le_of_ble_eq_true rfl, Nat.le_of_ble_eq_true rfl⟩ (Nat.le_of_ble_eq_true rfl) dL_law_1122 (s_X11_who H.2) (fun x230 h231 H => ?_)
      refine a_aload_n 2 rfl rfl dL_law_1125 ?_
      refine a_aload_n 0 rfl rfl dL_law_1126 ?_
      refine a_iload_n 3 rfl rfl dL_law_1127 ?_
      refine a_iconst (v := (1 : Int32)) (by decide) dL_law_1128 ?_
      refine a_iadd dL_law_1129 ?_
      refine r_lX dL_law_1130 H (fun x232 H => ?_)
      refine r_Vi (q := (RX12, TX12, 51)) (av := [.int x232]) (rest := [.int x230]) rfl rfl okX12_who H.1 rfl rfl wd1481 wd1482 wd1483 ⟨Nat.le_of_ble_eq_true rfl, Nat.le_of_ble_eq_true rfl⟩ (Nat.le_of_ble_eq_true rfl) dL_law_1131 (s_X12_who H.2) (fun x233 h234 H => ?_)
      refine a_icmp_eq (tgt := 1329) dL_law_1134 (by decide) (fun c => ?_) (fun c => ?_)
      · have H := H.1 (c)
        refine a_iinc (v := v3 + 6) (lv1 := [(0, .ref 0), (1, .ref v1), (2, .ref v2), (3, .int (v3 + 6))]) [1, 2, 3, 0] 3 rfl (by decide) rfl rfl dL_law_1329 ?_
        refine a_goto (tgt := 18) dL_law_1332 (by decide) ?_
        exact hK18 _ _ H
      · have H := H.2 (c)
        refine a_iconst (v := (0 : Int32)) (by decide) dL_law_1137 ?_
        exact r_retz rfl bl_0 dL_law_1138 H
    by_cases c35 : (x2 &&& (63 : Int32)) = 35
    · have H := H.2.2.2.2.2.2.2.2.2.2.2.2.2.2.2.2.2.2.2.2.2.2.2.2.2.2.2.2.2.2.2.2.2.2.2.1 c35
      refine r_tab (off := 1106) (tgt := 1139) dL_law_33 c35 (by decide) (by decide) rfl (by decide) ?_
      refine a_aload_n 1 rfl rfl dL_law_1139 ?_
      refine a_aload_n 0 rfl rfl dL_law_1140 ?_
      refine a_iload_n 3 rfl rfl dL_law_1141 ?_
      refine a_iconst (v := (1 : Int32)) (by decide) dL_law_1142 ?_
      refine a_iadd dL_law_1143 ?_
      refine r_lX dL_law_1144 H (fun x235 H => ?_)
      refine a_aload_n 0 rfl rfl dL_law_1145 ?_
      refine a_iload_n 3 rfl rfl dL_law_1146 ?_
      refine a_iconst (v := (2 : Int32)) (by decide) dL_law_1147 ?_
      refine a_iadd dL_law_1148 ?_
      refine r_lX dL_law_1149 H (fun x236 H => ?_)
      refine a_aload_n 0 rfl rfl dL_law_1150 ?_
      refine a_iload_n 3 rfl rfl dL_law_1151 ?_
      refine a_iconst (v := (3 : Int32)) (by decide) dL_law_1152 ?_
      refine a_iadd dL_law_1153 ?_
      refine r_lX dL_law_1154 H (fun x237 H => ?_)
      refine r_Vi (q := (RX11, TX11, 16)) (av := [.int x235, .int x236, .int x237]) (rest := []) rfl rfl okX11_odds H.1 rfl rfl wd943 wd944 wd945 ⟨Nat.le_of_ble_eq_true rfl, Nat.le_of_ble_eq_true rfl⟩ (Nat.le_of_ble_eq_true rfl) dL_law_1155 (s_X11_odds H.2) (fun x238 h239 H => ?_)
      refine a_aload_n 2 rfl rfl dL_law_1158 ?_
      refine a_aload_n 0 rfl rfl dL_law_1159 ?_
      refine a_iload_n 3 rfl rfl dL_law_1160 ?_
      refine a_iconst (v := (1 : Int32)) (by decide) dL_law_1161 ?_
      refine a_iadd dL_law_1162 ?_
      refine r_lX dL_law_1163 H (fun x240 H => ?_)
      refine a_aload_n 0 rfl rfl dL_law_1164 ?_
      refine a_iload_n 3 rfl rfl dL_law_1165 ?_
      refine a_iconst (v := (2 : Int32)) (by decide) dL_law_1166 ?_
      refine a_iadd dL_law_1167 ?_
      refine r_lX dL_law_1168 H (fun x241 H => ?_)
      refine a_aload_n 0 rfl rfl dL_law_1169 ?_
      refine a_iload_n 3 rfl rfl dL_law_1170 ?_
      refine a_iconst (v := (3 : Int32)) (by decide) dL_law_1171 ?_
      refine a_iadd dL_law_1172 ?_
      refine r_lX dL_law_1173 H (fun x242 H => ?_)
      refine r_Vi (q := (RX12, TX12, 51)) (av := [.int x240, .int x241, .int x242]) (rest := [.int x238]) rfl rfl okX12_odds H.1 rfl rfl wd1485 wd1486 wd1487 ⟨Nat.le_of_ble_eq_true rfl, Nat.le_of_ble_eq_true rfl⟩ (Nat.le_of_ble_eq_true rfl) dL_law_1174 (s_X12_odds H.2) (fun x243 h244 H => ?_)
      refine a_icmp_eq (tgt := 1329) dL_law_1177 (by decide) (fun c => ?_) (fun c => ?_)
      · have H := H.1 (c)
        refine a_iinc (v := v3 + 6) (lv1 := [(0, .ref 0), (1, .ref v1), (2, .ref v2), (3, .int (v3 + 6))]) [1, 2, 3, 0] 3 rfl (by decide) rfl rfl dL_law_1329 ?_
        refine a_goto (tgt := 18) dL_law_1332 (by decide) ?_
        exact hK18 _ _ H
      · have H := H.2 (c)
        refine a_iconst (v := (0 : Int32)) (by decide) dL_law_1180 ?_
        exact r_retz rfl bl_0 dL_law_1181 H
    by_cases c36 : (x2 &&& (63 : Int32)) = 36
    · have H := H.2.2.2.2.2.2.2.2.2.2.2.2.2.2.2.2.2.2.2.2.2.2.2.2.2.2.2.2.2.2.2.2.2.2.2.2.1 c36
      refine r_tab (off := 1149) (tgt := 1182) dL_law_33 c36 (by decide) (by decide) rfl (by decide) ?_
      refine a_aload_n 1 rfl rfl dL_law_1182 ?_
      refine a_aload_n 0 rfl rfl dL_law_1183 ?_
      refine a_iload_n 3 rfl rfl dL_law_1184 ?_
      refine a_iconst (v := (1 : Int32)) (by decide) dL_law_1185 ?_
      refine a_iadd dL_law_1186 ?_
      refine r_lX dL_law_1187 H (fun x245 H => ?_)
      refine a_aload_n 0 rfl rfl dL_law_1188 ?_
      refine a_iload_n 3 rfl rfl dL_law_1189 ?_
      refine a_iconst (v := (2 : Int32)) (by decide) dL_law_1190 ?_
      refine a_iadd dL_law_1191 ?_
      refine r_lX dL_law_1192 H (fun x246 H => ?_)
      refine r_Vi (q := (RX11, TX11, 16)) (av := [.int x245, .int x246]) (rest := []) rfl rfl okX11_years H.1 rfl rfl wd957 wd958 wd959 ⟨Nat.le_of_ble_eq_true rfl, Nat.le_of_ble_eq_true rfl⟩ (Nat.le_of_ble_eq_true rfl) dL_law_1193 (s_X11_years H.2) (fun x247 h248 H => ?_)
      refine a_aload_n 2 rfl rfl dL_law_1196 ?_
      refine a_aload_n 0 rfl rfl dL_law_1197 ?_
      refine a_iload_n 3 rfl rfl dL_law_1198 ?_
      refine a_iconst (v := (1 : Int32)) (by decide) dL_law_1199 ?_
      refine a_iadd dL_law_1200 ?_
      refine r_lX dL_law_1201 H (fun x249 H => ?_)
      refine a_aload_n 0 rfl rfl dL_law_1202 ?_
      refine a_iload_n 3 rfl rfl dL_law_1203 ?_
      refine a_iconst (v := (2 : Int32)) (by decide) dL_law_1204 ?_
      refine a_iadd dL_law_1205 ?_
      refine r_lX dL_law_1206 H (fun x250 H => ?_)
      refine r_Vi (q := (RX12, TX12, 51)) (av := [.int x249, .int x250]) (rest := [.int x247]) rfl rfl okX12_years H.1 rfl rfl wd1489 wd1490 wd1491 ⟨Nat.le_of_ble_eq_true rfl, Nat.le_of_ble_eq_true rfl⟩ (Nat.le_of_ble_eq_true rfl) dL_law_1207 (s_X12_years H.2) (fun x251 h252 H => ?_)
      refine a_icmp_eq (tgt := 1329) dL_law_1210 (by decide) (fun c => ?_) (fun c => ?_)
      · have H := H.1 (c)
        refine a_iinc (v := v3 + 6) (lv1 := [(0, .ref 0), (1, .ref v1), (2, .ref v2), (3, .int (v3 + 6))]) [1, 2, 3, 0] 3 rfl (by decide) rfl rfl dL_law_1329 ?_
        refine a_goto (tgt := 18) dL_law_1332 (by decide) ?_
        exact hK18 _ _ H
      · have H := H.2 (c)
        refine a_iconst (v := (0 : Int32)) (by decide) dL_law_1213 ?_
        exact r_retz rfl bl_0 dL_law_1214 H
    by_cases c37 : (x2 &&& (63 : Int32)) = 37
    · have H := H.2.2.2.2.2.2.2.2.2.2.2.2.2.2.2.2.2.2.2.2.2.2.2.2.2.2.2.2.2.2.2.2.2.2.2.2.2.1 c37
      refine r_tab (off := 1182) (tgt := 1215) dL_law_33 c37 (by decide) (by decide) rfl (by decide) ?_
      refine a_aload_n 1 rfl rfl dL_law_1215 ?_
      refine r_Vi (q := (RX11, TX11, 16)) (av := []) (rest := []) rfl rfl okX11_asked H.1 rfl rfl wd967 wd968 wd969 ⟨Nat.le_of_ble_eq_true rfl, Nat.le_of_ble_eq_true rfl⟩ (Nat.le_of_ble_eq_true rfl) dL_law_1216 (s_X11_asked H.2) (fun x253 h254 H => ?_)
      refine a_aload_n 2 rfl rfl dL_law_1219 ?_
      refine r_Vi (q := (RX12, TX12, 51)) (av := []) (rest := [.int x253]) rfl rfl okX12_asked H.1 rfl rfl wd1497 wd1498 wd1499 ⟨Nat.le_of_ble_eq_true rfl, Nat.le_of_ble_eq_true rfl⟩ (Nat.le_of_ble_eq_true rfl) dL_law_1220 (s_X12_asked H.2) (fun x255 h256 H => ?_)
      refine a_icmp_eq (tgt := 1329) dL_law_1223 (by decide) (fun c => ?_) (fun c => ?_)
      · have H := H.1 (c)
        refine a_iinc (v := v3 + 6) (lv1 := [(0, .ref 0), (1, .ref v1), (2, .ref v2), (3, .int (v3 + 6))]) [1, 2, 3, 0] 3 rfl (by decide) rfl rfl dL_law_1329 ?_
        refine a_goto (tgt := 18) dL_law_1332 (by decide) ?_
        exact hK18 _ _ H
      · have H := H.2 (c)
        refine a_iconst (v := (0 : Int32)) (by decide) dL_law_1226 ?_
        exact r_retz rfl bl_0 dL_law_1227 H
    by_cases c38 : (x2 &&& (63 : Int32)) = 38
    · have H := H.2.2.2.2.2.2.2.2.2.2.2.2.2.2.2.2.2.2.2.2.2.2.2.2.2.2.2.2.2.2.2.2.2.2.2.2.2.2.1 c38
      refine r_tab (off := 1195) (tgt := 1228) dL_law_33 c38 (by decide) (by decide) rfl (by decide) ?_
      refine a_aload_n 1 rfl rfl dL_law_1228 ?_
      refine r_Vl (q := (RX11, TX11, 16)) (av := []) (rest := []) rfl rfl okX11_upper H.1 rfl rfl wd971 wd972 wd973 ⟨Nat.le_of_ble_eq_true rfl, Nat.le_of_ble_eq_true rfl⟩ (Nat.le_of_ble_eq_true rfl) dL_law_1229 (s_X11_upper H.2) (fun x257 h258 H => ?_)
      refine a_aload_n 2 rfl rfl dL_law_1232 ?_
      refine r_Vl (q := (RX12, TX12, 51)) (av := []) (rest := [.long x257]) rfl rfl okX12_upper H.1 rfl rfl wd1501 wd1502 wd1503 ⟨Nat.le_of_ble_eq_true rfl, Nat.le_of_ble_eq_true rfl⟩ (Nat.le_of_ble_eq_true rfl) dL_law_1233 (s_X12_upper H.2) (fun x259 h260 H => ?_)
      refine a_lcmp dL_law_1236 ?_
      refine a_if_eq (tgt := 1329) dL_law_1237 (by decide) (fun c => ?_) (fun c => ?_)
      · have H := H.1 ((lgc_eq _ _).mp c)
        refine a_iinc (v := v3 + 6) (lv1 := [(0, .ref 0), (1, .ref v1), (2, .ref v2), (3, .int (v3 + 6))]) [1, 2, 3, 0] 3 rfl (by decide) rfl rfl dL_law_1329 ?_
        refine a_goto (tgt := 18) dL_law_1332 (by decide) ?_
        exact hK18 _ _ H
      · have H := H.2 (fun q => c ((lgc_eq _ _).mpr q))
        refine a_iconst (v := (0 : Int32)) (by decide) dL_law_1240 ?_
        exact r_retz rfl bl_0 dL_law_1241 H
    by_cases c39 : (x2 &&& (63 : Int32)) = 39
    · have H := H.2.2.2.2.2.2.2.2.2.2.2.2.2.2.2.2.2.2.2.2.2.2.2.2.2.2.2.2.2.2.2.2.2.2.2.2.2.2.2.1 c39
      refine r_tab (off := 1209) (tgt := 1242) dL_law_33 c39 (by decide) (by decide) rfl (by decide) ?_
      refine a_aload_n 1 rfl rfl dL_law_1242 ?_
      refine r_Vl (q := (RX11, TX11, 16)) (av := []) (rest := []) rfl rfl okX11_lower H.1 rfl rfl wd975 wd976 wd977 ⟨Nat.le_of_ble_eq_true rfl, Nat.le_of_ble_eq_true rfl⟩ (Nat.le_of_ble_eq_true rfl) dL_law_1243 (s_X11_lower H.2) (fun x261 h262 H => ?_)
      refine a_aload_n 2 rfl rfl dL_law_1246 ?_
      refine r_Vl (q := (RX12, TX12, 51)) (av := []) (rest := [.long x261]) rfl rfl okX12_lower H.1 rfl rfl wd1505 wd1506 wd1507 ⟨Nat.le_of_ble_eq_true rfl, Nat.le_of_ble_eq_true rfl⟩ (Nat.le_of_ble_eq_true rfl) dL_law_1247 (s_X12_lower H.2) (fun x263 h264 H => ?_)
      refine a_lcmp dL_law_1250 ?_
      refine a_if_eq (tgt := 1329) dL_law_1251 (by decide) (fun c => ?_) (fun c => ?_)
      · have H := H.1 ((lgc_eq _ _).mp c)
        refine a_iinc (v := v3 + 6) (lv1 := [(0, .ref 0), (1, .ref v1), (2, .ref v2), (3, .int (v3 + 6))]) [1, 2, 3, 0] 3 rfl (by decide) rfl rfl dL_law_1329 ?_
        refine a_goto (tgt := 18) dL_law_1332 (by decide) ?_
        exact hK18 _ _ H
      · have H := H.2 (fun q => c ((lgc_eq _ _).mpr q))
        refine a_iconst (v := (0 : Int32)) (by decide) dL_law_1254 ?_
        exact r_retz rfl bl_0 dL_law_1255 H
    by_cases c40 : (x2 &&& (63 : Int32)) = 40
    · have H := H.2.2.2.2.2.2.2.2.2.2.2.2.2.2.2.2.2.2.2.2.2.2.2.2.2.2.2.2.2.2.2.2.2.2.2.2.2.2.2.2.1 c40
      refine r_tab (off := 1223) (tgt := 1256) dL_law_33 c40 (by decide) (by decide) rfl (by decide) ?_
      refine a_aload_n 1 rfl rfl dL_law_1256 ?_
      refine a_aload_n 0 rfl rfl dL_law_1257 ?_
      refine a_iload_n 3 rfl rfl dL_law_1258 ?_
      refine a_iconst (v := (1 : Int32)) (by decide) dL_law_1259 ?_
      refine a_iadd dL_law_1260 ?_
      refine r_lX dL_law_1261 H (fun x265 H => ?_)
      refine r_Vi (q := (RX11, TX11, 16)) (av := [.int x265]) (rest := []) rfl rfl okX11_count H.1 rfl rfl wd979 wd980 wd981 ⟨Nat.le_of_ble_eq_true rfl, Nat.le_of_ble_eq_true rfl⟩ (Nat.le_of_ble_eq_true rfl) dL_law_1262 (s_X11_count H.2) (fun x266 h267 H => ?_)
      refine a_aload_n 2 rfl rfl dL_law_1265 ?_
      refine a_aload_n 0 rfl rfl dL_law_1266 ?_
      refine a_iload_n 3 rfl rfl dL_law_1267 ?_
      refine a_iconst (v := (1 : Int32)) (by decide) dL_law_1268 ?_
      refine a_iadd dL_law_1269 ?_
      refine r_lX dL_law_1270 H (fun x268 H => ?_)
      refine r_Vi (q := (RX12, TX12, 51)) (av := [.int x268]) (rest := [.int x266]) rfl rfl okX12_count H.1 rfl rfl wd1509 wd1510 wd1511 ⟨Nat.le_of_ble_eq_true rfl, Nat.le_of_ble_eq_true rfl⟩ (Nat.le_of_ble_eq_true rfl) dL_law_1271 (s_X12_count H.2) (fun x269 h270 H => ?_)
      refine a_icmp_eq (tgt := 1329) dL_law_1274 (by decide) (fun c => ?_) (fun c => ?_)
      · have H := H.1 (c)
        refine a_iinc (v := v3 + 6) (lv1 := [(0, .ref 0), (1, .ref v1), (2, .ref v2), (3, .int (v3 + 6))]) [1, 2, 3, 0] 3 rfl (by decide) rfl rfl dL_law_1329 ?_
        refine a_goto (tgt := 18) dL_law_1332 (by decide) ?_
        exact hK18 _ _ H
      · have H := H.2 (c)
        refine a_iconst (v := (0 : Int32)) (by decide) dL_law_1277 ?_
        exact r_retz rfl bl_0 dL_law_1278 H
    by_cases c41 : (x2 &&& (63 : Int32)) = 41
    · have H := H.2.2.2.2.2.2.2.2.2.2.2.2.2.2.2.2.2.2.2.2.2.2.2.2.2.2.2.2.2.2.2.2.2.2.2.2.2.2.2.2.2.1 c41
      refine r_tab (off := 1246) (tgt := 1279) dL_law_33 c41 (by decide) (by decide) rfl (by decide) ?_
      refine a_aload_n 1 rfl rfl dL_law_1279 ?_
      refine r_Vi (q := (RX11, TX11, 16)) (av := []) (rest := []) rfl rfl okX11_finding H.1 rfl rfl wd996 wd997 wd998 ⟨Nat.le_of_ble_eq_true rfl, Nat.le_of_ble_eq_true rfl⟩ (Nat.le_of_ble_eq_true rfl) dL_law_1280 (s_X11_finding H.2) (fun x271 h272 H => ?_)
      refine a_aload_n 2 rfl rfl dL_law_1283 ?_
      refine r_Vi (q := (RX12, TX12, 51)) (av := []) (rest := [.int x271]) rfl rfl okX12_finding H.1 rfl rfl wd1520 wd1521 wd1522 ⟨Nat.le_of_ble_eq_true rfl, Nat.le_of_ble_eq_true rfl⟩ (Nat.le_of_ble_eq_true rfl) dL_law_1284 (s_X12_finding H.2) (fun x273 h274 H => ?_)
      refine a_icmp_eq (tgt := 1329) dL_law_1287 (by decide) (fun c => ?_) (fun c => ?_)
      · have H := H.1 (c)
        refine a_iinc (v := v3 + 6) (lv1 := [(0, .ref 0), (1, .ref v1), (2, .ref v2), (3, .int (v3 + 6))]) [1, 2, 3, 0] 3 rfl (by decide) rfl rfl dL_law_1329 ?_
        refine a_goto (tgt := 18) dL_law_1332 (by decide) ?_
        exact hK18 _ _ H
      · have H := H.2 (c)
        refine a_iconst (v := (0 : Int32)) (by decide) dL_law_1290 ?_
        exact r_retz rfl bl_0 dL_law_1291 H
    by_cases c42 : (x2 &&& (63 : Int32)) = 42
    · have H := H.2.2.2.2.2.2.2.2.2.2.2.2.2.2.2.2.2.2.2.2.2.2.2.2.2.2.2.2.2.2.2.2.2.2.2.2.2.2.2.2.2.2.1 c42
      refine r_tab (off := 1259) (tgt := 1292) dL_law_33 c42 (by decide) (by decide) rfl (by decide) ?_
      refine a_aload_n 1 rfl rfl dL_law_1292 ?_
      refine a_aload_n 0 rfl rfl dL_law_1293 ?_
      refine a_iload_n 3 rfl rfl dL_law_1294 ?_
      refine a_iconst (v := (1 : Int32)) (by decide) dL_law_1295 ?_
      refine a_iadd dL_law_1296 ?_
      refine r_lX dL_law_1297 H (fun x275 H => ?_)
      refine r_Vi (q := (RX11, TX11, 16)) (av := [.int x275]) (rest := []) rfl rfl okX11_findings H.1 rfl rfl wd1000 wd1001 wd1002 ⟨Nat.le_of_ble_eq_true rfl, Nat.le_of_ble_eq_true rfl⟩ (Nat.le_of_ble_eq_true rfl) dL_law_1298 (s_X11_findings H.2) (fun x276 h277 H => ?_)
      refine a_aload_n 2 rfl rfl dL_law_1301 ?_
      refine a_aload_n 0 rfl rfl dL_law_1302 ?_
      refine a_iload_n 3 rfl rfl dL_law_1303 ?_
      refine a_iconst (v := (1 : Int32)) (by decide) dL_law_1304 ?_
      refine a_iadd dL_law_1305 ?_
      refine r_lX dL_law_1306 H (fun x278 H => ?_)
      refine r_Vi (q := (RX12, TX12, 51)) (av := [.int x278]) (rest := [.int x276]) rfl rfl okX12_findings H.1 rfl rfl wd1524 wd1525 wd1526 ⟨Nat.le_of_ble_eq_true rfl, Nat.le_of_ble_eq_true rfl⟩ (Nat.le_of_ble_eq_true rfl) dL_law_1307 (s_X12_findings H.2) (fun x279 h280 H => ?_)
      refine a_icmp_eq (tgt := 1329) dL_law_1310 (by decide) (fun c => ?_) (fun c => ?_)
      · have H := H.1 (c)
        refine a_iinc (v := v3 + 6) (lv1 := [(0, .ref 0), (1, .ref v1), (2, .ref v2), (3, .int (v3 + 6))]) [1, 2, 3, 0] 3 rfl (by decide) rfl rfl dL_law_1329 ?_
        refine a_goto (tgt := 18) dL_law_1332 (by decide) ?_
        exact hK18 _ _ H
      · have H := H.2 (c)
        refine a_iconst (v := (0 : Int32)) (by decide) dL_law_1313 ?_
        exact r_retz rfl bl_0 dL_law_1314 H
    by_cases c43 : (x2 &&& (63 : Int32)) = 43
    · have H := H.2.2.2.2.2.2.2.2.2.2.2.2.2.2.2.2.2.2.2.2.2.2.2.2.2.2.2.2.2.2.2.2.2.2.2.2.2.2.2.2.2.2.2.1 c43
      refine r_tab (off := 1282) (tgt := 1315) dL_law_33 c43 (by decide) (by decide) rfl (by decide) ?_
      refine a_aload_n 1 rfl rfl dL_law_1315 ?_
      refine r_Vl (q := (RX11, TX11, 16)) (av := []) (rest := []) rfl rfl okX11_digest H.1 rfl rfl wd1004 wd1005 wd1006 ⟨Nat.le_of_ble_eq_true rfl, Nat.le_of_ble_eq_true rfl⟩ (Nat.le_of_ble_eq_true rfl) dL_law_1316 (s_X11_digest H.2) (fun x281 h282 H => ?_)
      refine a_aload_n 2 rfl rfl dL_law_1319 ?_
      refine r_Vl (q := (RX12, TX12, 51)) (av := []) (rest := [.long x281]) rfl rfl okX12_digest H.1 rfl rfl wd1528 wd1529 wd1530 ⟨Nat.le_of_ble_eq_true rfl, Nat.le_of_ble_eq_true rfl⟩ (Nat.le_of_ble_eq_true rfl) dL_law_1320 (s_X12_digest H.2) (fun x283 h284 H => ?_)
      refine a_lcmp dL_law_1323 ?_
      refine a_if_eq (tgt := 1329) dL_law_1324 (by decide) (fun c => ?_) (fun c => ?_)
      · have H := H.1 ((lgc_eq _ _).mp c)
        refine a_iinc (v := v3 + 6) (lv1 := [(0, .ref 0), (1, .ref v1), (2, .ref v2), (3, .int (v3 + 6))]) [1, 2, 3, 0] 3 rfl (by decide) rfl rfl dL_law_1329 ?_
        refine a_goto (tgt := 18) dL_law_1332 (by decide) ?_
        exact hK18 _ _ H
      · have H := H.2 (fun q => c ((lgc_eq _ _).mpr q))
        refine a_iconst (v := (0 : Int32)) (by decide) dL_law_1327 ?_
        exact r_retz rfl bl_0 dL_law_1328 H
    have H := H.2.2.2.2.2.2.2.2.2.2.2.2.2.2.2.2.2.2.2.2.2.2.2.2.2.2.2.2.2.2.2.2.2.2.2.2.2.2.2.2.2.2.2.2 c0 c1 c2 c3 c4 c5 c6 c7 c8 c9 c10 c11 c12 c13 c14 c15 c16 c17 c18 c19 c20 c21 c22 c23 c24 c25 c26 c27 c28 c29 c30 c31 c32 c33 c34 c35 c36 c37 c38 c39 c40 c41 c42 c43
    have e0 := lv_neT (a := 0) c0 (by decide)
    have e1 := lv_neT (a := 1) c1 (by decide)
    have e2 := lv_neT (a := 2) c2 (by decide)
    have e3 := lv_neT (a := 3) c3 (by decide)
    have e4 := lv_neT (a := 4) c4 (by decide)
    have e5 := lv_neT (a := 5) c5 (by decide)
    have e6 := lv_neT (a := 6) c6 (by decide)
    have e7 := lv_neT (a := 7) c7 (by decide)
    have e8 := lv_neT (a := 8) c8 (by decide)
    have e9 := lv_neT (a := 9) c9 (by decide)
    have e10 := lv_neT (a := 10) c10 (by decide)
    have e11 := lv_neT (a := 11) c11 (by decide)
    have e12 := lv_neT (a := 12) c12 (by decide)
    have e13 := lv_neT (a := 13) c13 (by decide)
    have e14 := lv_neT (a := 14) c14 (by decide)
    have e15 := lv_neT (a := 15) c15 (by decide)
    have e16 := lv_neT (a := 16) c16 (by decide)
    have e17 := lv_neT (a := 17) c17 (by decide)
    have e18 := lv_neT (a := 18) c18 (by decide)
    have e19 := lv_neT (a := 19) c19 (by decide)
    have e20 := lv_neT (a := 20) c20 (by decide)
    have e21 := lv_neT (a := 21) c21 (by decide)
    have e22 := lv_neT (a := 22) c22 (by decide)
    have e23 := lv_neT (a := 23) c23 (by decide)
    have e24 := lv_neT (a := 24) c24 (by decide)
    have e25 := lv_neT (a := 25) c25 (by decide)
    have e26 := lv_neT (a := 26) c26 (by decide)
    have e27 := lv_neT (a := 27) c27 (by decide)
    have e28 := lv_neT (a := 28) c28 (by decide)
    have e29 := lv_neT (a := 29) c29 (by decide)
    have e30 := lv_neT (a := 30) c30 (by decide)
    have e31 := lv_neT (a := 31) c31 (by decide)
    have e32 := lv_neT (a := 32) c32 (by decide)
    have e33 := lv_neT (a := 33) c33 (by decide)
    have e34 := lv_neT (a := 34) c34 (by decide)
    have e35 := lv_neT (a := 35) c35 (by decide)
    have e36 := lv_neT (a := 36) c36 (by decide)
    have e37 := lv_neT (a := 37) c37 (by decide)
    have e38 := lv_neT (a := 38) c38 (by decide)
    have e39 := lv_neT (a := 39) c39 (by decide)
    have e40 := lv_neT (a := 40) c40 (by decide)
    have e41 := lv_neT (a := 41) c41 (by decide)
    have e42 := lv_neT (a := 42) c42 (by decide)
    have e43 := lv_neT (a := 43) c43 (by decide)
    refine a_tableOut (tgt := 1329) dL_law_33 (by omega) (by decide) ?_
    refine a_iinc (v := v3 + 6) (lv1 := [(0, .ref 0), (1, .ref v1), (2, .ref v2), (3, .int (v3 + 6))]) [1, 2, 3, 0] 3 rfl (by decide) rfl rfl dL_law_1329 ?_
    refine a_goto (tgt := 18) dL_law_1332 (by decide) ?_
    exact hK18 _ _ H
def L_L_law_18 (Q : Int32 → AH → Prop)  (v1 : Nat) (v2 : Nat) : Nat → Int32 → AH → Prop
  | 0, _, _ => False
  | n + 1, v3, h => B_L_law_18 Q (L_L_law_18 Q  v1 v2 n) v1 v2 v3 h
theorem l_L_law_18 {o : Om} {Q : Int32 → AH → Prop}  {v1 : Nat} {v2 : Nat}  : ∀ (n : Nat) (v3 : Int32) (h : AH), L_L_law_18 Q  v1 v2 n v3 h → AQ o kL_law h 18 [(0, .ref 0), (1, .ref v1), (2, .ref v2), (3, .int v3)] [] (qI Q) := by
  intro n
  induction n with
  | zero => intro v3 h H; exact H.elim
  | succ n ih => intro v3 h H; exact b_L_law_18 ih H
def f_L_law  (h : AH) (Q : Int32 → AH → Prop) : Prop :=
  nO h 11 16 dfX11 (fun a1 h2 => f_X11_init a1  h2 (fun h3 => nO h3 12 51 dfX12 (fun a4 h5 => f_X12_init a4  h5 (fun h6 => ∃ n, L_L_law_18 Q  a1 a4 n (0 : Int32) h6))))
set_option maxRecDepth 100000 in
set_option maxHeartbeats 4000000 in
theorem s_L_law {o : Om} {h : AH} {Q : Int32 → AH → Prop} (H : f_L_law h Q) : AQ o kL_law h 0 [(0, .ref 0)] [] (qI Q) := by
  refine r_nO (C := RX11) (T := TX11) (N := 16) (ty := tyX11) rfl inG11 tyX11_ok wd17 wd18 wd1 dfX11_ok dL_law_0 H (fun a1 h2 H => ?_)
  refine a_dup rfl dL_law_3 ?_
  refine r_Iv (av := []) (rest := [.ref a1]) rfl rfl okX11_init wd19 wd20 rfl rfl ⟨Nat.le_of_ble_eq_true rfl, Nat.le_of_ble_eq_true rfl⟩ (Nat.le_of_ble_eq_true rfl) dL_law_4 (s_X11_init H) (fun h3 H => ?_)
  refine a_astore_n (lv1 := [(0, .ref 0), (1, .ref a1)]) rfl [1, 0] (by decide) rfl dL_law_7 ?_
  refine r_nO (C := RX12) (T := TX12) (N := 51) (ty := tyX12) rfl inG12 tyX12_ok wd1018 wd1019 wd7 dfX12_ok dL_law_8 H (fun a4 h5 H => ?_)
  refine a_dup rfl dL_law_11 ?_
  refine r_Iv (av := []) (rest := [.ref a4]) rfl rfl okX12_init wd1020 wd1021 rfl rfl ⟨Nat.le_of_ble_eq_true rfl, Nat.le_of_ble_eq_true rfl⟩ (Nat.le_of_ble_eq_true rfl) dL_law_12 (s_X12_init H) (fun h6 H => ?_)
  refine a_astore_n (lv1 := [(0, .ref 0), (1, .ref a1), (2, .ref a4)]) rfl [1, 2, 0] (by decide) rfl dL_law_15 ?_
  refine a_iconst (v := (0 : Int32)) (by decide) dL_law_16 ?_
  refine a_istore_n (lv1 := [(0, .ref 0), (1, .ref a1), (2, .ref a4), (3, .int (0 : Int32))]) rfl [1, 2, 3, 0] (by decide) rfl dL_law_17 ?_
  obtain ⟨n, H⟩ := H
  exact l_L_law_18  n _ _ H
