theorem w_1241 : Cond.methodLink RX2 81 yJ9_floorMod_7cf53 ∈ tblG := tgm (in_t5 _ (List.mem_of_getElem? (i := 143) rfl)) rfl
theorem w_1242 : Cond.static yJ9_floorMod_7cf53 ∈ tblG := tgm (in_t5 _ (List.mem_of_getElem? (i := 144) rfl)) rfl
theorem w_1243 : Cond.code yJ9_floorMod_7cf53 cJ9_floorMod_7cf53 3 (some .int) ∈ tblG := tgm (in_t5 _ (List.mem_of_getElem? (i := 145) rfl)) rfl
theorem w_1244 : Cond.methodLink RX2 57 yX2_rank ∈ tblG := tgm (in_t5 _ (List.mem_of_getElem? (i := 146) rfl)) rfl
theorem w_1246 : Cond.instanceMethod yX2_rank ∈ tblG := tgm (in_t5 _ (List.mem_of_getElem? (i := 148) rfl)) rfl
theorem w_1247 : Cond.code yX2_rank cX2_rank 6 (some .int) ∈ tblG := tgm (in_t5 _ (List.mem_of_getElem? (i := 149) rfl)) rfl
theorem w_1248 : Cond.methodLink RX2 84 yX2_bringsUp ∈ tblG := tgm (in_t5 _ (List.mem_of_getElem? (i := 150) rfl)) rfl
theorem w_1250 : Cond.instanceMethod yX2_bringsUp ∈ tblG := tgm (in_t5 _ (List.mem_of_getElem? (i := 152) rfl)) rfl
theorem w_1251 : Cond.code yX2_bringsUp cX2_bringsUp 6 (some .boolean) ∈ tblG := tgm (in_t5 _ (List.mem_of_getElem? (i := 153) rfl)) rfl
theorem w_1252 : Cond.methodLink RX2 88 yX2_clearColumn ∈ tblG := tgm (in_t5 _ (List.mem_of_getElem? (i := 154) rfl)) rfl
theorem w_1253 : Cond.static yX2_clearColumn ∈ tblG := tgm (in_t5 _ (List.mem_of_getElem? (i := 155) rfl)) rfl
theorem w_1254 : Cond.code yX2_clearColumn cX2_clearColumn 7 none ∈ tblG := tgm (in_t5 _ (List.mem_of_getElem? (i := 156) rfl)) rfl
theorem w_1255 : Cond.methodLink "HandKnotLaw" 115 yX11_cannot ∈ tblG := tgm (in_t5 _ (List.mem_of_getElem? (i := 157) rfl)) rfl
theorem w_1256 : Cond.instanceMethod yX11_cannot ∈ tblG := tgm (in_t5 _ (List.mem_of_getElem? (i := 158) rfl)) rfl
theorem w_1257 : Cond.selects RX11 yX11_cannot yX11_cannot ∈ tblG := tgm (in_t5 _ (List.mem_of_getElem? (i := 159) rfl)) rfl
theorem w_1258 : Cond.code yX11_cannot cX11_cannot 1 (some .int) ∈ tblG := tgm (in_t5 _ (List.mem_of_getElem? (i := 160) rfl)) rfl
theorem w_1259 : Cond.methodLink RX11 258 yX11_isProvedTight ∈ tblG := tgm (in_t5 _ (List.mem_of_getElem? (i := 161) rfl)) rfl
theorem w_1261 : Cond.instanceMethod yX11_isProvedTight ∈ tblG := tgm (in_t5 _ (List.mem_of_getElem? (i := 163) rfl)) rfl
theorem w_1262 : Cond.code yX11_isProvedTight cX11_isProvedTight 3 (some .boolean) ∈ tblG := tgm (in_t5 _ (List.mem_of_getElem? (i := 164) rfl)) rfl
theorem w_1263 : Cond.methodLink "HandKnotLaw" 119 yX11_part ∈ tblG := tgm (in_t5 _ (List.mem_of_getElem? (i := 165) rfl)) rfl
theorem w_1264 : Cond.instanceMethod yX11_part ∈ tblG := tgm (in_t5 _ (List.mem_of_getElem? (i := 166) rfl)) rfl
theorem w_1265 : Cond.selects RX11 yX11_part yX11_part ∈ tblG := tgm (in_t5 _ (List.mem_of_getElem? (i := 167) rfl)) rfl
theorem w_1266 : Cond.code yX11_part cX11_part 3 (some .int) ∈ tblG := tgm (in_t5 _ (List.mem_of_getElem? (i := 168) rfl)) rfl
theorem w_1267 : Cond.methodLink RX11 264 yX11_bestPart ∈ tblG := tgm (in_t5 _ (List.mem_of_getElem? (i := 169) rfl)) rfl
theorem w_1269 : Cond.instanceMethod yX11_bestPart ∈ tblG := tgm (in_t5 _ (List.mem_of_getElem? (i := 171) rfl)) rfl
theorem w_1270 : Cond.code yX11_bestPart cX11_bestPart 6 (some .int) ∈ tblG := tgm (in_t5 _ (List.mem_of_getElem? (i := 172) rfl)) rfl
theorem w_1271 : Cond.methodLink RX11 267 yX4_become ∈ tblG := tgm (in_t5 _ (List.mem_of_getElem? (i := 173) rfl)) rfl
theorem w_1272 : Cond.instanceMethod yX4_become ∈ tblG := tgm (in_t5 _ (List.mem_of_getElem? (i := 174) rfl)) rfl
theorem w_1273 : Cond.selects RX4 yX4_become yX4_become ∈ tblG := tgm (in_t5 _ (List.mem_of_getElem? (i := 175) rfl)) rfl
theorem w_1274 : Cond.code yX4_become cX4_become 2 none ∈ tblG := tgm (in_t5 _ (List.mem_of_getElem? (i := 176) rfl)) rfl
theorem w_1275 : Cond.methodLink RX11 270 yX4_letGo ∈ tblG := tgm (in_t5 _ (List.mem_of_getElem? (i := 177) rfl)) rfl
theorem w_1276 : Cond.instanceMethod yX4_letGo ∈ tblG := tgm (in_t5 _ (List.mem_of_getElem? (i := 178) rfl)) rfl
theorem w_1277 : Cond.selects RX4 yX4_letGo yX4_letGo ∈ tblG := tgm (in_t5 _ (List.mem_of_getElem? (i := 179) rfl)) rfl
theorem w_1278 : Cond.code yX4_letGo cX4_letGo 6 none ∈ tblG := tgm (in_t5 _ (List.mem_of_getElem? (i := 180) rfl)) rfl
theorem w_1279 : Cond.methodLink RX4 33 yX4_passAt ∈ tblG := tgm (in_t5 _ (List.mem_of_getElem? (i := 181) rfl)) rfl
theorem w_1280 : Cond.constantLong RX4 41 (-1 : Int64) ∈ tblG := tgm (in_t5 _ (List.mem_of_getElem? (i := 182) rfl)) rfl
theorem w_1281 : Cond.methodLink "HandKnotLaw" 123 yX11_lift ∈ tblG := tgm (in_t5 _ (List.mem_of_getElem? (i := 183) rfl)) rfl
theorem w_1282 : Cond.instanceMethod yX11_lift ∈ tblG := tgm (in_t5 _ (List.mem_of_getElem? (i := 184) rfl)) rfl
theorem w_1283 : Cond.selects RX11 yX11_lift yX11_lift ∈ tblG := tgm (in_t5 _ (List.mem_of_getElem? (i := 185) rfl)) rfl
theorem w_1284 : Cond.code yX11_lift cX11_lift 3 (some .int) ∈ tblG := tgm (in_t5 _ (List.mem_of_getElem? (i := 186) rfl)) rfl
theorem w_1285 : Cond.methodLink RX11 274 yX11_bestLift ∈ tblG := tgm (in_t5 _ (List.mem_of_getElem? (i := 187) rfl)) rfl
theorem w_1287 : Cond.instanceMethod yX11_bestLift ∈ tblG := tgm (in_t5 _ (List.mem_of_getElem? (i := 189) rfl)) rfl
theorem w_1288 : Cond.code yX11_bestLift cX11_bestLift 6 (some .int) ∈ tblG := tgm (in_t5 _ (List.mem_of_getElem? (i := 190) rfl)) rfl
theorem w_1289 : Cond.methodLink RX11 277 yX0_isLeft ∈ tblG := tgm (in_t5 _ (List.mem_of_getElem? (i := 191) rfl)) rfl
theorem w_1290 : Cond.methodLink RX11 280 yX4_turnOver ∈ tblG := tgm (in_t5 _ (List.mem_of_getElem? (i := 192) rfl)) rfl
theorem w_1291 : Cond.instanceMethod yX4_turnOver ∈ tblG := tgm (in_t5 _ (List.mem_of_getElem? (i := 193) rfl)) rfl
theorem w_1292 : Cond.selects RX4 yX4_turnOver yX4_turnOver ∈ tblG := tgm (in_t5 _ (List.mem_of_getElem? (i := 194) rfl)) rfl
theorem w_1293 : Cond.code yX4_turnOver cX4_turnOver 6 none ∈ tblG := tgm (in_t5 _ (List.mem_of_getElem? (i := 195) rfl)) rfl
theorem w_1294 : Cond.methodLink "HandKnotLaw" 127 yX11_twist ∈ tblG := tgm (in_t5 _ (List.mem_of_getElem? (i := 196) rfl)) rfl
theorem w_1295 : Cond.instanceMethod yX11_twist ∈ tblG := tgm (in_t5 _ (List.mem_of_getElem? (i := 197) rfl)) rfl
theorem w_1296 : Cond.selects RX11 yX11_twist yX11_twist ∈ tblG := tgm (in_t5 _ (List.mem_of_getElem? (i := 198) rfl)) rfl
theorem w_1297 : Cond.code yX11_twist cX11_twist 2 (some .int) ∈ tblG := tgm (in_t5 _ (List.mem_of_getElem? (i := 199) rfl)) rfl
theorem w_1298 : Cond.methodLink "HandKnotLaw" 131 yX11_arcs ∈ tblG := tgm (in_t5 _ (List.mem_of_getElem? (i := 200) rfl)) rfl
theorem w_1299 : Cond.instanceMethod yX11_arcs ∈ tblG := tgm (in_t5 _ (List.mem_of_getElem? (i := 201) rfl)) rfl
theorem w_1300 : Cond.selects RX11 yX11_arcs yX11_arcs ∈ tblG := tgm (in_t5 _ (List.mem_of_getElem? (i := 202) rfl)) rfl
theorem w_1301 : Cond.code yX11_arcs cX11_arcs 1 (some .int) ∈ tblG := tgm (in_t5 _ (List.mem_of_getElem? (i := 203) rfl)) rfl
theorem w_1302 : Cond.methodLink RX11 283 yX2_countArcs ∈ tblG := tgm (in_t5 _ (List.mem_of_getElem? (i := 204) rfl)) rfl
theorem w_1303 : Cond.methodLink "HandKnotLaw" 135 yX11_reached ∈ tblG := tgm (in_t5 _ (List.mem_of_getElem? (i := 205) rfl)) rfl
theorem w_1304 : Cond.instanceMethod yX11_reached ∈ tblG := tgm (in_t5 _ (List.mem_of_getElem? (i := 206) rfl)) rfl
theorem w_1305 : Cond.selects RX11 yX11_reached yX11_reached ∈ tblG := tgm (in_t5 _ (List.mem_of_getElem? (i := 207) rfl)) rfl
theorem w_1306 : Cond.code yX11_reached cX11_reached 3 (some .int) ∈ tblG := tgm (in_t5 _ (List.mem_of_getElem? (i := 208) rfl)) rfl
theorem w_1307 : Cond.methodLink RX11 287 yX7_countReached ∈ tblG := tgm (in_t5 _ (List.mem_of_getElem? (i := 209) rfl)) rfl
theorem w_1308 : Cond.instanceMethod yX7_countReached ∈ tblG := tgm (in_t5 _ (List.mem_of_getElem? (i := 210) rfl)) rfl
theorem w_1309 : Cond.selects RX7 yX7_countReached yX7_countReached ∈ tblG := tgm (in_t5 _ (List.mem_of_getElem? (i := 211) rfl)) rfl
theorem w_1310 : Cond.code yX7_countReached cX7_countReached 3 (some .int) ∈ tblG := tgm (in_t5 _ (List.mem_of_getElem? (i := 212) rfl)) rfl
theorem w_1311 : Cond.methodLink "HandKnotLaw" 139 yX11_few ∈ tblG := tgm (in_t5 _ (List.mem_of_getElem? (i := 213) rfl)) rfl
theorem w_1312 : Cond.instanceMethod yX11_few ∈ tblG := tgm (in_t5 _ (List.mem_of_getElem? (i := 214) rfl)) rfl
theorem w_1313 : Cond.selects RX11 yX11_few yX11_few ∈ tblG := tgm (in_t5 _ (List.mem_of_getElem? (i := 215) rfl)) rfl
theorem w_1314 : Cond.code yX11_few cX11_few 3 (some .int) ∈ tblG := tgm (in_t5 _ (List.mem_of_getElem? (i := 216) rfl)) rfl
theorem w_1315 : Cond.methodLink RX11 290 yX7_leastLeft ∈ tblG := tgm (in_t5 _ (List.mem_of_getElem? (i := 217) rfl)) rfl
theorem w_1316 : Cond.instanceMethod yX7_leastLeft ∈ tblG := tgm (in_t5 _ (List.mem_of_getElem? (i := 218) rfl)) rfl
theorem w_1317 : Cond.selects RX7 yX7_leastLeft yX7_leastLeft ∈ tblG := tgm (in_t5 _ (List.mem_of_getElem? (i := 219) rfl)) rfl
theorem w_1318 : Cond.code yX7_leastLeft cX7_leastLeft 5 (some .int) ∈ tblG := tgm (in_t5 _ (List.mem_of_getElem? (i := 220) rfl)) rfl
theorem w_1319 : Cond.methodLink RX7 45 yX7_crossingsIn ∈ tblG := tgm (in_t5 _ (List.mem_of_getElem? (i := 221) rfl)) rfl
theorem w_1320 : Cond.static yX7_crossingsIn ∈ tblG := tgm (in_t5 _ (List.mem_of_getElem? (i := 222) rfl)) rfl
theorem w_1321 : Cond.code yX7_crossingsIn cX7_crossingsIn 4 (some .int) ∈ tblG := tgm (in_t5 _ (List.mem_of_getElem? (i := 223) rfl)) rfl
theorem w_1322 : Cond.methodLink RX7 55 yX4_passAt ∈ tblG := tgm (in_t5 _ (List.mem_of_getElem? (i := 224) rfl)) rfl
theorem w_1323 : Cond.methodLink RX7 49 Lib.Math.min.name ∈ tblG := tgm (in_t5 _ (List.mem_of_getElem? (i := 225) rfl)) rfl
theorem w_1324 : Cond.methodLink "HandKnotLaw" 143 yX11_sees ∈ tblG := tgm (in_t5 _ (List.mem_of_getElem? (i := 226) rfl)) rfl
theorem w_1325 : Cond.instanceMethod yX11_sees ∈ tblG := tgm (in_t5 _ (List.mem_of_getElem? (i := 227) rfl)) rfl
theorem w_1326 : Cond.selects RX11 yX11_sees yX11_sees ∈ tblG := tgm (in_t5 _ (List.mem_of_getElem? (i := 228) rfl)) rfl
theorem w_1327 : Cond.code yX11_sees cX11_sees 2 (some .int) ∈ tblG := tgm (in_t5 _ (List.mem_of_getElem? (i := 229) rfl)) rfl
theorem w_1328 : Cond.methodLink RX11 293 yX0_seenBy ∈ tblG := tgm (in_t5 _ (List.mem_of_getElem? (i := 230) rfl)) rfl
theorem w_1329 : Cond.instanceMethod yX0_seenBy ∈ tblG := tgm (in_t5 _ (List.mem_of_getElem? (i := 231) rfl)) rfl
theorem w_1330 : Cond.selects RX0 yX0_seenBy yX0_seenBy ∈ tblG := tgm (in_t5 _ (List.mem_of_getElem? (i := 232) rfl)) rfl
theorem w_1331 : Cond.code yX0_seenBy cX0_seenBy 5 (some .int) ∈ tblG := tgm (in_t5 _ (List.mem_of_getElem? (i := 233) rfl)) rfl
theorem w_1332 : Cond.methodLink "HandKnotLaw" 147 yX11_own ∈ tblG := tgm (in_t5 _ (List.mem_of_getElem? (i := 234) rfl)) rfl
theorem w_1333 : Cond.instanceMethod yX11_own ∈ tblG := tgm (in_t5 _ (List.mem_of_getElem? (i := 235) rfl)) rfl
theorem w_1334 : Cond.selects RX11 yX11_own yX11_own ∈ tblG := tgm (in_t5 _ (List.mem_of_getElem? (i := 236) rfl)) rfl
theorem w_1335 : Cond.code yX11_own cX11_own 2 (some .int) ∈ tblG := tgm (in_t5 _ (List.mem_of_getElem? (i := 237) rfl)) rfl
theorem w_1336 : Cond.methodLink RX11 296 yX10_bestOwn ∈ tblG := tgm (in_t5 _ (List.mem_of_getElem? (i := 238) rfl)) rfl
theorem w_1337 : Cond.static yX10_bestOwn ∈ tblG := tgm (in_t5 _ (List.mem_of_getElem? (i := 239) rfl)) rfl
theorem w_1338 : Cond.code yX10_bestOwn cX10_bestOwn 8 (some .int) ∈ tblG := tgm (in_t6 _ (List.mem_of_getElem? (i := 0) rfl)) rfl
theorem w_1339 : Cond.methodLink RX10 65 yX0_seenBy ∈ tblG := tgm (in_t6 _ (List.mem_of_getElem? (i := 1) rfl)) rfl
theorem w_1340 : Cond.methodLink RX10 68 yX0_touchedBy ∈ tblG := tgm (in_t6 _ (List.mem_of_getElem? (i := 2) rfl)) rfl
theorem w_1341 : Cond.static yX0_touchedBy ∈ tblG := tgm (in_t6 _ (List.mem_of_getElem? (i := 3) rfl)) rfl
theorem w_1342 : Cond.code yX0_touchedBy cX0_touchedBy 2 (some .int) ∈ tblG := tgm (in_t6 _ (List.mem_of_getElem? (i := 4) rfl)) rfl
theorem w_1343 : Cond.methodLink "HandKnotLaw" 151 yX11_rounds ∈ tblG := tgm (in_t6 _ (List.mem_of_getElem? (i := 5) rfl)) rfl
theorem w_1344 : Cond.instanceMethod yX11_rounds ∈ tblG := tgm (in_t6 _ (List.mem_of_getElem? (i := 6) rfl)) rfl
theorem w_1345 : Cond.selects RX11 yX11_rounds yX11_rounds ∈ tblG := tgm (in_t6 _ (List.mem_of_getElem? (i := 7) rfl)) rfl
theorem w_1346 : Cond.code yX11_rounds cX11_rounds 2 (some .int) ∈ tblG := tgm (in_t6 _ (List.mem_of_getElem? (i := 8) rfl)) rfl
theorem w_1347 : Cond.methodLink RX11 299 yX10_leftBehindRounds ∈ tblG := tgm (in_t6 _ (List.mem_of_getElem? (i := 9) rfl)) rfl
theorem w_1348 : Cond.instanceMethod yX10_leftBehindRounds ∈ tblG := tgm (in_t6 _ (List.mem_of_getElem? (i := 10) rfl)) rfl
theorem w_1349 : Cond.selects RX10 yX10_leftBehindRounds yX10_leftBehindRounds ∈ tblG := tgm (in_t6 _ (List.mem_of_getElem? (i := 11) rfl)) rfl
theorem w_1350 : Cond.code yX10_leftBehindRounds cX10_leftBehindRounds 6 (some .int) ∈ tblG := tgm (in_t6 _ (List.mem_of_getElem? (i := 12) rfl)) rfl
theorem w_1351 : Cond.methodLink RX10 71 yX0_lay ∈ tblG := tgm (in_t6 _ (List.mem_of_getElem? (i := 13) rfl)) rfl
theorem w_1352 : Cond.methodLink RX10 80 yX10_bestOwn ∈ tblG := tgm (in_t6 _ (List.mem_of_getElem? (i := 14) rfl)) rfl
theorem w_1353 : Cond.methodLink RX10 84 yX0_make ∈ tblG := tgm (in_t6 _ (List.mem_of_getElem? (i := 15) rfl)) rfl
theorem w_1354 : Cond.instanceMethod yX0_make ∈ tblG := tgm (in_t6 _ (List.mem_of_getElem? (i := 16) rfl)) rfl
theorem w_1355 : Cond.selects RX0 yX0_make yX0_make ∈ tblG := tgm (in_t6 _ (List.mem_of_getElem? (i := 17) rfl)) rfl
theorem w_1356 : Cond.code yX0_make cX0_make 2 none ∈ tblG := tgm (in_t6 _ (List.mem_of_getElem? (i := 18) rfl)) rfl
theorem w_1357 : Cond.methodLink RX0 173 yX0_after ∈ tblG := tgm (in_t6 _ (List.mem_of_getElem? (i := 19) rfl)) rfl
theorem w_1358 : Cond.methodLink "HandKnotLaw" 155 yX11_tries ∈ tblG := tgm (in_t6 _ (List.mem_of_getElem? (i := 20) rfl)) rfl
theorem w_1359 : Cond.instanceMethod yX11_tries ∈ tblG := tgm (in_t6 _ (List.mem_of_getElem? (i := 21) rfl)) rfl
theorem w_1360 : Cond.selects RX11 yX11_tries yX11_tries ∈ tblG := tgm (in_t6 _ (List.mem_of_getElem? (i := 22) rfl)) rfl
theorem w_1361 : Cond.code yX11_tries cX11_tries 4 (some .int) ∈ tblG := tgm (in_t6 _ (List.mem_of_getElem? (i := 23) rfl)) rfl
theorem w_1362 : Cond.methodLink RX11 302 yX11_isSeed ∈ tblG := tgm (in_t6 _ (List.mem_of_getElem? (i := 24) rfl)) rfl
theorem w_1363 : Cond.static yX11_isSeed ∈ tblG := tgm (in_t6 _ (List.mem_of_getElem? (i := 25) rfl)) rfl
theorem w_1364 : Cond.code yX11_isSeed cX11_isSeed 1 (some .boolean) ∈ tblG := tgm (in_t6 _ (List.mem_of_getElem? (i := 26) rfl)) rfl
theorem w_1365 : Cond.constant RX11 104 (65537 : Int32) ∈ tblG := tgm (in_t6 _ (List.mem_of_getElem? (i := 27) rfl)) rfl
theorem w_1366 : Cond.methodLink RX11 305 yX10_looseTries ∈ tblG := tgm (in_t6 _ (List.mem_of_getElem? (i := 28) rfl)) rfl
theorem w_1367 : Cond.instanceMethod yX10_looseTries ∈ tblG := tgm (in_t6 _ (List.mem_of_getElem? (i := 29) rfl)) rfl
theorem w_1368 : Cond.selects RX10 yX10_looseTries yX10_looseTries ∈ tblG := tgm (in_t6 _ (List.mem_of_getElem? (i := 30) rfl)) rfl
theorem w_1369 : Cond.code yX10_looseTries cX10_looseTries 9 (some .int) ∈ tblG := tgm (in_t6 _ (List.mem_of_getElem? (i := 31) rfl)) rfl
theorem w_1370 : Cond.methodLink RX10 88 yX4_seedBehind ∈ tblG := tgm (in_t6 _ (List.mem_of_getElem? (i := 32) rfl)) rfl
theorem w_1371 : Cond.static yX4_seedBehind ∈ tblG := tgm (in_t6 _ (List.mem_of_getElem? (i := 33) rfl)) rfl
theorem w_1372 : Cond.code yX4_seedBehind cX4_seedBehind 1 (some .int) ∈ tblG := tgm (in_t6 _ (List.mem_of_getElem? (i := 34) rfl)) rfl
theorem w_1373 : Cond.constant RX4 25 (65537 : Int32) ∈ tblG := tgm (in_t6 _ (List.mem_of_getElem? (i := 35) rfl)) rfl
theorem w_1374 : Cond.methodLink RX10 91 yX0_drawn ∈ tblG := tgm (in_t6 _ (List.mem_of_getElem? (i := 36) rfl)) rfl
theorem w_1375 : Cond.instanceMethod yX0_drawn ∈ tblG := tgm (in_t6 _ (List.mem_of_getElem? (i := 37) rfl)) rfl
theorem w_1376 : Cond.selects RX0 yX0_drawn yX0_drawn ∈ tblG := tgm (in_t6 _ (List.mem_of_getElem? (i := 38) rfl)) rfl
theorem w_1377 : Cond.code yX0_drawn cX0_drawn 2 (some .int) ∈ tblG := tgm (in_t6 _ (List.mem_of_getElem? (i := 39) rfl)) rfl
theorem w_1378 : Cond.methodLink "HandKnotLaw" 160 yX11_ways ∈ tblG := tgm (in_t6 _ (List.mem_of_getElem? (i := 40) rfl)) rfl
theorem w_1379 : Cond.instanceMethod yX11_ways ∈ tblG := tgm (in_t6 _ (List.mem_of_getElem? (i := 41) rfl)) rfl
theorem w_1380 : Cond.selects RX11 yX11_ways yX11_ways ∈ tblG := tgm (in_t6 _ (List.mem_of_getElem? (i := 42) rfl)) rfl
theorem w_1381 : Cond.code yX11_ways cX11_ways 4 (some .long) ∈ tblG := tgm (in_t6 _ (List.mem_of_getElem? (i := 43) rfl)) rfl
theorem w_1382 : Cond.methodLink RX11 309 yX1_isCrowd ∈ tblG := tgm (in_t6 _ (List.mem_of_getElem? (i := 44) rfl)) rfl
theorem w_1383 : Cond.static yX1_isCrowd ∈ tblG := tgm (in_t6 _ (List.mem_of_getElem? (i := 45) rfl)) rfl
theorem w_1384 : Cond.code yX1_isCrowd cX1_isCrowd 1 (some .boolean) ∈ tblG := tgm (in_t6 _ (List.mem_of_getElem? (i := 46) rfl)) rfl
theorem w_1385 : Cond.methodLink RX11 312 yX1_isRingCount ∈ tblG := tgm (in_t6 _ (List.mem_of_getElem? (i := 47) rfl)) rfl
theorem w_1386 : Cond.static yX1_isRingCount ∈ tblG := tgm (in_t6 _ (List.mem_of_getElem? (i := 48) rfl)) rfl
theorem w_1387 : Cond.code yX1_isRingCount cX1_isRingCount 1 (some .boolean) ∈ tblG := tgm (in_t6 _ (List.mem_of_getElem? (i := 49) rfl)) rfl
theorem w_1388 : Cond.methodLink RX11 315 yX1_waysInto ∈ tblG := tgm (in_t6 _ (List.mem_of_getElem? (i := 50) rfl)) rfl
theorem w_1389 : Cond.instanceMethod yX1_waysInto ∈ tblG := tgm (in_t6 _ (List.mem_of_getElem? (i := 51) rfl)) rfl
theorem w_1390 : Cond.selects RX1 yX1_waysInto yX1_waysInto ∈ tblG := tgm (in_t6 _ (List.mem_of_getElem? (i := 52) rfl)) rfl
theorem w_1391 : Cond.code yX1_waysInto cX1_waysInto 4 (some .long) ∈ tblG := tgm (in_t6 _ (List.mem_of_getElem? (i := 53) rfl)) rfl
theorem w_1392 : Cond.methodLink RX1 20 yX1_fill ∈ tblG := tgm (in_t6 _ (List.mem_of_getElem? (i := 54) rfl)) rfl
theorem w_1393 : Cond.static yX1_fill ∈ tblG := tgm (in_t6 _ (List.mem_of_getElem? (i := 55) rfl)) rfl
theorem w_1394 : Cond.code yX1_fill cX1_fill 4 none ∈ tblG := tgm (in_t6 _ (List.mem_of_getElem? (i := 56) rfl)) rfl
theorem w_1395 : Cond.methodLink RX1 32 yX1_waysByFirstRing ∈ tblG := tgm (in_t6 _ (List.mem_of_getElem? (i := 57) rfl)) rfl
theorem w_1396 : Cond.static yX1_waysByFirstRing ∈ tblG := tgm (in_t6 _ (List.mem_of_getElem? (i := 58) rfl)) rfl
theorem w_1397 : Cond.code yX1_waysByFirstRing cX1_waysByFirstRing 9 (some .long) ∈ tblG := tgm (in_t6 _ (List.mem_of_getElem? (i := 59) rfl)) rfl
theorem w_1398 : Cond.constantLong RX1 36 (2 : Int64) ∈ tblG := tgm (in_t6 _ (List.mem_of_getElem? (i := 60) rfl)) rfl
theorem w_1399 : Cond.methodLink RX1 24 yX1_isRingCount ∈ tblG := tgm (in_t6 _ (List.mem_of_getElem? (i := 61) rfl)) rfl
theorem w_1400 : Cond.methodLink "HandKnotLaw" 165 yX11_odds ∈ tblG := tgm (in_t6 _ (List.mem_of_getElem? (i := 62) rfl)) rfl
theorem w_1401 : Cond.instanceMethod yX11_odds ∈ tblG := tgm (in_t6 _ (List.mem_of_getElem? (i := 63) rfl)) rfl
theorem w_1402 : Cond.selects RX11 yX11_odds yX11_odds ∈ tblG := tgm (in_t6 _ (List.mem_of_getElem? (i := 64) rfl)) rfl
theorem w_1403 : Cond.code yX11_odds cX11_odds 7 (some .long) ∈ tblG := tgm (in_t6 _ (List.mem_of_getElem? (i := 65) rfl)) rfl
theorem w_1404 : Cond.methodLink RX11 319 yX1_allWays ∈ tblG := tgm (in_t6 _ (List.mem_of_getElem? (i := 66) rfl)) rfl
theorem w_1405 : Cond.instanceMethod yX1_allWays ∈ tblG := tgm (in_t6 _ (List.mem_of_getElem? (i := 67) rfl)) rfl
theorem w_1406 : Cond.selects RX1 yX1_allWays yX1_allWays ∈ tblG := tgm (in_t6 _ (List.mem_of_getElem? (i := 68) rfl)) rfl
theorem w_1407 : Cond.code yX1_allWays cX1_allWays 6 (some .long) ∈ tblG := tgm (in_t6 _ (List.mem_of_getElem? (i := 69) rfl)) rfl
theorem w_1408 : Cond.methodLink RX1 28 yX1_waysInto ∈ tblG := tgm (in_t6 _ (List.mem_of_getElem? (i := 70) rfl)) rfl
theorem w_1409 : Cond.methodLink RX11 323 yX1_inLowestTerms ∈ tblG := tgm (in_t6 _ (List.mem_of_getElem? (i := 71) rfl)) rfl
theorem w_1410 : Cond.static yX1_inLowestTerms ∈ tblG := tgm (in_t6 _ (List.mem_of_getElem? (i := 72) rfl)) rfl
theorem w_1411 : Cond.code yX1_inLowestTerms cX1_inLowestTerms 9 (some .long) ∈ tblG := tgm (in_t6 _ (List.mem_of_getElem? (i := 73) rfl)) rfl
theorem w_1412 : Cond.methodLink RX1 38 yX1_commonDivisor ∈ tblG := tgm (in_t6 _ (List.mem_of_getElem? (i := 74) rfl)) rfl
theorem w_1413 : Cond.static yX1_commonDivisor ∈ tblG := tgm (in_t6 _ (List.mem_of_getElem? (i := 75) rfl)) rfl
theorem w_1414 : Cond.code yX1_commonDivisor cX1_commonDivisor 11 (some .long) ∈ tblG := tgm (in_t6 _ (List.mem_of_getElem? (i := 76) rfl)) rfl
theorem w_1415 : Cond.methodLink "HandKnotLaw" 170 yX11_mean ∈ tblG := tgm (in_t6 _ (List.mem_of_getElem? (i := 77) rfl)) rfl
theorem w_1416 : Cond.instanceMethod yX11_mean ∈ tblG := tgm (in_t6 _ (List.mem_of_getElem? (i := 78) rfl)) rfl
theorem w_1417 : Cond.selects RX11 yX11_mean yX11_mean ∈ tblG := tgm (in_t6 _ (List.mem_of_getElem? (i := 79) rfl)) rfl
theorem w_1418 : Cond.code yX11_mean cX11_mean 6 (some .long) ∈ tblG := tgm (in_t6 _ (List.mem_of_getElem? (i := 80) rfl)) rfl
theorem w_1419 : Cond.methodLink RX11 327 yX1_allRings ∈ tblG := tgm (in_t6 _ (List.mem_of_getElem? (i := 81) rfl)) rfl
theorem w_1420 : Cond.instanceMethod yX1_allRings ∈ tblG := tgm (in_t6 _ (List.mem_of_getElem? (i := 82) rfl)) rfl
theorem w_1421 : Cond.selects RX1 yX1_allRings yX1_allRings ∈ tblG := tgm (in_t6 _ (List.mem_of_getElem? (i := 83) rfl)) rfl
theorem w_1422 : Cond.code yX1_allRings cX1_allRings 6 (some .long) ∈ tblG := tgm (in_t6 _ (List.mem_of_getElem? (i := 84) rfl)) rfl
theorem w_1423 : Cond.methodLink "HandKnotLaw" 175 yX11_move ∈ tblG := tgm (in_t6 _ (List.mem_of_getElem? (i := 85) rfl)) rfl
theorem w_1424 : Cond.instanceMethod yX11_move ∈ tblG := tgm (in_t6 _ (List.mem_of_getElem? (i := 86) rfl)) rfl
theorem w_1425 : Cond.selects RX11 yX11_move yX11_move ∈ tblG := tgm (in_t6 _ (List.mem_of_getElem? (i := 87) rfl)) rfl
theorem w_1426 : Cond.code yX11_move cX11_move 2 (some .int) ∈ tblG := tgm (in_t6 _ (List.mem_of_getElem? (i := 88) rfl)) rfl
theorem w_1427 : Cond.methodLink RX11 334 yX3_keep ∈ tblG := tgm (in_t6 _ (List.mem_of_getElem? (i := 89) rfl)) rfl
theorem w_1428 : Cond.instanceMethod yX3_keep ∈ tblG := tgm (in_t6 _ (List.mem_of_getElem? (i := 90) rfl)) rfl
theorem w_1429 : Cond.selects RX3 yX3_keep yX3_keep ∈ tblG := tgm (in_t6 _ (List.mem_of_getElem? (i := 91) rfl)) rfl
theorem w_1430 : Cond.code yX3_keep cX3_keep 2 none ∈ tblG := tgm (in_t6 _ (List.mem_of_getElem? (i := 92) rfl)) rfl
theorem w_1431 : Cond.methodLink RX3 31 yX4_become ∈ tblG := tgm (in_t6 _ (List.mem_of_getElem? (i := 93) rfl)) rfl
theorem w_1432 : Cond.methodLink RX3 35 Lib.Math.min.name ∈ tblG := tgm (in_t6 _ (List.mem_of_getElem? (i := 94) rfl)) rfl
theorem w_1433 : Cond.methodLink RX11 337 yX11_makeMove ∈ tblG := tgm (in_t6 _ (List.mem_of_getElem? (i := 95) rfl)) rfl
theorem w_1435 : Cond.instanceMethod yX11_makeMove ∈ tblG := tgm (in_t6 _ (List.mem_of_getElem? (i := 97) rfl)) rfl
theorem w_1436 : Cond.code yX11_makeMove cX11_makeMove 2 none ∈ tblG := tgm (in_t6 _ (List.mem_of_getElem? (i := 98) rfl)) rfl
theorem w_1437 : Cond.methodLink RX11 330 yX0_after ∈ tblG := tgm (in_t6 _ (List.mem_of_getElem? (i := 99) rfl)) rfl
theorem w_1438 : Cond.methodLink "HandKnotLaw" 179 yX11_parts ∈ tblG := tgm (in_t6 _ (List.mem_of_getElem? (i := 100) rfl)) rfl
theorem w_1439 : Cond.instanceMethod yX11_parts ∈ tblG := tgm (in_t6 _ (List.mem_of_getElem? (i := 101) rfl)) rfl
theorem w_1440 : Cond.selects RX11 yX11_parts yX11_parts ∈ tblG := tgm (in_t6 _ (List.mem_of_getElem? (i := 102) rfl)) rfl
theorem w_1441 : Cond.code yX11_parts cX11_parts 3 (some .int) ∈ tblG := tgm (in_t6 _ (List.mem_of_getElem? (i := 103) rfl)) rfl
theorem w_1442 : Cond.methodLink "HandKnotLaw" 183 yX11_lifts ∈ tblG := tgm (in_t6 _ (List.mem_of_getElem? (i := 104) rfl)) rfl
theorem w_1443 : Cond.instanceMethod yX11_lifts ∈ tblG := tgm (in_t6 _ (List.mem_of_getElem? (i := 105) rfl)) rfl
theorem w_1444 : Cond.selects RX11 yX11_lifts yX11_lifts ∈ tblG := tgm (in_t6 _ (List.mem_of_getElem? (i := 106) rfl)) rfl
theorem w_1445 : Cond.code yX11_lifts cX11_lifts 2 (some .int) ∈ tblG := tgm (in_t6 _ (List.mem_of_getElem? (i := 107) rfl)) rfl
theorem w_1446 : Cond.methodLink "HandKnotLaw" 187 yX11_lot ∈ tblG := tgm (in_t6 _ (List.mem_of_getElem? (i := 108) rfl)) rfl
theorem w_1447 : Cond.instanceMethod yX11_lot ∈ tblG := tgm (in_t6 _ (List.mem_of_getElem? (i := 109) rfl)) rfl
theorem w_1448 : Cond.selects RX11 yX11_lot yX11_lot ∈ tblG := tgm (in_t6 _ (List.mem_of_getElem? (i := 110) rfl)) rfl
theorem w_1449 : Cond.code yX11_lot cX11_lot 2 (some .int) ∈ tblG := tgm (in_t6 _ (List.mem_of_getElem? (i := 111) rfl)) rfl
theorem w_1450 : Cond.methodLink RX11 343 yX4_seedBehind ∈ tblG := tgm (in_t6 _ (List.mem_of_getElem? (i := 112) rfl)) rfl
theorem w_1451 : Cond.methodLink RX11 346 yX0_drawn ∈ tblG := tgm (in_t6 _ (List.mem_of_getElem? (i := 113) rfl)) rfl
theorem w_1452 : Cond.methodLink "HandKnotLaw" 191 yX11_call ∈ tblG := tgm (in_t6 _ (List.mem_of_getElem? (i := 114) rfl)) rfl
theorem w_1453 : Cond.instanceMethod yX11_call ∈ tblG := tgm (in_t6 _ (List.mem_of_getElem? (i := 115) rfl)) rfl
theorem w_1454 : Cond.selects RX11 yX11_call yX11_call ∈ tblG := tgm (in_t6 _ (List.mem_of_getElem? (i := 116) rfl)) rfl
theorem w_1455 : Cond.code yX11_call cX11_call 2 (some .int) ∈ tblG := tgm (in_t6 _ (List.mem_of_getElem? (i := 117) rfl)) rfl
theorem w_1456 : Cond.methodLink "HandKnotLaw" 195 yX11_seed ∈ tblG := tgm (in_t6 _ (List.mem_of_getElem? (i := 118) rfl)) rfl
theorem w_1457 : Cond.instanceMethod yX11_seed ∈ tblG := tgm (in_t6 _ (List.mem_of_getElem? (i := 119) rfl)) rfl
theorem w_1458 : Cond.selects RX11 yX11_seed yX11_seed ∈ tblG := tgm (in_t6 _ (List.mem_of_getElem? (i := 120) rfl)) rfl
theorem w_1459 : Cond.code yX11_seed cX11_seed 2 (some .boolean) ∈ tblG := tgm (in_t6 _ (List.mem_of_getElem? (i := 121) rfl)) rfl
theorem w_1460 : Cond.methodLink RX11 349 yX11_refuseFlatly ∈ tblG := tgm (in_t6 _ (List.mem_of_getElem? (i := 122) rfl)) rfl
theorem w_1462 : Cond.instanceMethod yX11_refuseFlatly ∈ tblG := tgm (in_t6 _ (List.mem_of_getElem? (i := 124) rfl)) rfl
theorem w_1463 : Cond.code yX11_refuseFlatly cX11_refuseFlatly 2 (some .boolean) ∈ tblG := tgm (in_t6 _ (List.mem_of_getElem? (i := 125) rfl)) rfl
theorem w_1464 : Cond.methodLink "HandKnotLaw" 200 yX11_undo ∈ tblG := tgm (in_t6 _ (List.mem_of_getElem? (i := 126) rfl)) rfl
theorem w_1465 : Cond.instanceMethod yX11_undo ∈ tblG := tgm (in_t6 _ (List.mem_of_getElem? (i := 127) rfl)) rfl
theorem w_1466 : Cond.selects RX11 yX11_undo yX11_undo ∈ tblG := tgm (in_t6 _ (List.mem_of_getElem? (i := 128) rfl)) rfl
theorem w_1467 : Cond.code yX11_undo cX11_undo 1 (some .boolean) ∈ tblG := tgm (in_t6 _ (List.mem_of_getElem? (i := 129) rfl)) rfl
theorem w_1468 : Cond.methodLink RX11 352 yX3_giveLatest ∈ tblG := tgm (in_t6 _ (List.mem_of_getElem? (i := 130) rfl)) rfl
theorem w_1469 : Cond.instanceMethod yX3_giveLatest ∈ tblG := tgm (in_t6 _ (List.mem_of_getElem? (i := 131) rfl)) rfl
theorem w_1470 : Cond.selects RX3 yX3_giveLatest yX3_giveLatest ∈ tblG := tgm (in_t6 _ (List.mem_of_getElem? (i := 132) rfl)) rfl
theorem w_1471 : Cond.code yX3_giveLatest cX3_giveLatest 2 (some .boolean) ∈ tblG := tgm (in_t6 _ (List.mem_of_getElem? (i := 133) rfl)) rfl
theorem w_1472 : Cond.methodLink "HandKnotLaw" 205 yX11_mark ∈ tblG := tgm (in_t6 _ (List.mem_of_getElem? (i := 134) rfl)) rfl
theorem w_1473 : Cond.instanceMethod yX11_mark ∈ tblG := tgm (in_t6 _ (List.mem_of_getElem? (i := 135) rfl)) rfl
theorem w_1474 : Cond.selects RX11 yX11_mark yX11_mark ∈ tblG := tgm (in_t6 _ (List.mem_of_getElem? (i := 136) rfl)) rfl
theorem w_1475 : Cond.code yX11_mark cX11_mark 2 (some .int) ∈ tblG := tgm (in_t6 _ (List.mem_of_getElem? (i := 137) rfl)) rfl
theorem w_1476 : Cond.methodLink RX11 356 yX3_setMark ∈ tblG := tgm (in_t6 _ (List.mem_of_getElem? (i := 138) rfl)) rfl
theorem w_1477 : Cond.instanceMethod yX3_setMark ∈ tblG := tgm (in_t6 _ (List.mem_of_getElem? (i := 139) rfl)) rfl
theorem w_1478 : Cond.selects RX3 yX3_setMark yX3_setMark ∈ tblG := tgm (in_t6 _ (List.mem_of_getElem? (i := 140) rfl)) rfl
theorem w_1479 : Cond.code yX3_setMark cX3_setMark 2 (some .int) ∈ tblG := tgm (in_t6 _ (List.mem_of_getElem? (i := 141) rfl)) rfl
theorem w_1480 : Cond.methodLink "HandKnotLaw" 209 yX11_back ∈ tblG := tgm (in_t6 _ (List.mem_of_getElem? (i := 142) rfl)) rfl
theorem w_1481 : Cond.instanceMethod yX11_back ∈ tblG := tgm (in_t6 _ (List.mem_of_getElem? (i := 143) rfl)) rfl
theorem w_1482 : Cond.selects RX11 yX11_back yX11_back ∈ tblG := tgm (in_t6 _ (List.mem_of_getElem? (i := 144) rfl)) rfl
theorem w_1483 : Cond.code yX11_back cX11_back 2 (some .boolean) ∈ tblG := tgm (in_t6 _ (List.mem_of_getElem? (i := 145) rfl)) rfl
theorem w_1484 : Cond.methodLink RX11 360 yX3_giveMarked ∈ tblG := tgm (in_t6 _ (List.mem_of_getElem? (i := 146) rfl)) rfl
theorem w_1485 : Cond.instanceMethod yX3_giveMarked ∈ tblG := tgm (in_t6 _ (List.mem_of_getElem? (i := 147) rfl)) rfl
theorem w_1486 : Cond.selects RX3 yX3_giveMarked yX3_giveMarked ∈ tblG := tgm (in_t6 _ (List.mem_of_getElem? (i := 148) rfl)) rfl
theorem w_1487 : Cond.code yX3_giveMarked cX3_giveMarked 3 (some .boolean) ∈ tblG := tgm (in_t6 _ (List.mem_of_getElem? (i := 149) rfl)) rfl
theorem w_1488 : Cond.methodLink "HandKnotLaw" 222 yX11_size ∈ tblG := tgm (in_t6 _ (List.mem_of_getElem? (i := 150) rfl)) rfl
theorem w_1489 : Cond.instanceMethod yX11_size ∈ tblG := tgm (in_t6 _ (List.mem_of_getElem? (i := 151) rfl)) rfl
theorem w_1490 : Cond.selects RX11 yX11_size yX11_size ∈ tblG := tgm (in_t6 _ (List.mem_of_getElem? (i := 152) rfl)) rfl
theorem w_1491 : Cond.code yX11_size cX11_size 2 (some .int) ∈ tblG := tgm (in_t6 _ (List.mem_of_getElem? (i := 153) rfl)) rfl
theorem w_1492 : Cond.methodLink RX11 371 yX11_toldSize ∈ tblG := tgm (in_t6 _ (List.mem_of_getElem? (i := 154) rfl)) rfl
theorem w_1494 : Cond.instanceMethod yX11_toldSize ∈ tblG := tgm (in_t6 _ (List.mem_of_getElem? (i := 156) rfl)) rfl
theorem w_1495 : Cond.code yX11_toldSize cX11_toldSize 2 (some .int) ∈ tblG := tgm (in_t6 _ (List.mem_of_getElem? (i := 157) rfl)) rfl
theorem w_1496 : Cond.methodLink RX11 374 yX11_changingSize ∈ tblG := tgm (in_t6 _ (List.mem_of_getElem? (i := 158) rfl)) rfl
theorem w_1498 : Cond.instanceMethod yX11_changingSize ∈ tblG := tgm (in_t6 _ (List.mem_of_getElem? (i := 160) rfl)) rfl
theorem w_1499 : Cond.code yX11_changingSize cX11_changingSize 2 (some .int) ∈ tblG := tgm (in_t6 _ (List.mem_of_getElem? (i := 161) rfl)) rfl
theorem w_1500 : Cond.methodLink "HandKnotLaw" 226 yX11_trouble ∈ tblG := tgm (in_t6 _ (List.mem_of_getElem? (i := 162) rfl)) rfl
theorem w_1501 : Cond.instanceMethod yX11_trouble ∈ tblG := tgm (in_t6 _ (List.mem_of_getElem? (i := 163) rfl)) rfl
theorem w_1502 : Cond.selects RX11 yX11_trouble yX11_trouble ∈ tblG := tgm (in_t6 _ (List.mem_of_getElem? (i := 164) rfl)) rfl
theorem w_1503 : Cond.code yX11_trouble cX11_trouble 1 (some .int) ∈ tblG := tgm (in_t6 _ (List.mem_of_getElem? (i := 165) rfl)) rfl
theorem w_1504 : Cond.methodLink "HandKnotLaw" 213 yL_led ∈ tblG := tgm (in_t6 _ (List.mem_of_getElem? (i := 166) rfl)) rfl
theorem w_1505 : Cond.static yL_led ∈ tblG := tgm (in_t6 _ (List.mem_of_getElem? (i := 167) rfl)) rfl
theorem w_1508 : Cond.methodLink "HandKnotLaw" 7 yX11_led ∈ tblG := tgm (in_t6 _ (List.mem_of_getElem? (i := 170) rfl)) rfl
theorem w_1509 : Cond.instanceMethod yX11_led ∈ tblG := tgm (in_t6 _ (List.mem_of_getElem? (i := 171) rfl)) rfl
theorem w_1510 : Cond.selects RX11 yX11_led yX11_led ∈ tblG := tgm (in_t6 _ (List.mem_of_getElem? (i := 172) rfl)) rfl
theorem w_1511 : Cond.code yX11_led cX11_led 4 (some .int) ∈ tblG := tgm (in_t6 _ (List.mem_of_getElem? (i := 173) rfl)) rfl
theorem w_1538 : Cond.fieldLink "java/lang/Throwable" 13 "java/lang/Throwable" "UNASSIGNED_STACK" "[Ljava/lang/StackTraceElement;" ∈ tblG := tgm (in_t6 _ (List.mem_of_getElem? (i := 200) rfl)) rfl
theorem w_1540 : Cond.fieldLink "java/lang/Throwable" 20 "java/lang/Throwable" "SUPPRESSED_SENTINEL" "Ljava/util/List;" ∈ tblG := tgm (in_t6 _ (List.mem_of_getElem? (i := 202) rfl)) rfl
theorem w_1564 : Cond.fieldLink "java/lang/Throwable" 198 "java/lang/Throwable" "backtrace" "Ljava/lang/Object;" ∈ tblG := tgm (in_t6 _ (List.mem_of_getElem? (i := 226) rfl)) rfl
theorem w_1565 : Cond.fieldLink "java/lang/Throwable" 31 "java/lang/Throwable" "detailMessage" "Ljava/lang/String;" ∈ tblG := tgm (in_t6 _ (List.mem_of_getElem? (i := 227) rfl)) rfl
theorem w_1566 : Cond.fieldLink "java/lang/Throwable" 7 "java/lang/Throwable" "cause" "Ljava/lang/Throwable;" ∈ tblG := tgm (in_t6 _ (List.mem_of_getElem? (i := 228) rfl)) rfl
theorem w_1567 : Cond.fieldLink "java/lang/Throwable" 17 "java/lang/Throwable" "stackTrace" "[Ljava/lang/StackTraceElement;" ∈ tblG := tgm (in_t6 _ (List.mem_of_getElem? (i := 229) rfl)) rfl
theorem w_1568 : Cond.fieldLink "java/lang/Throwable" 24 "java/lang/Throwable" "suppressedExceptions" "Ljava/util/List;" ∈ tblG := tgm (in_t6 _ (List.mem_of_getElem? (i := 230) rfl)) rfl
theorem w_1579 : Cond.methodLink "HandKnotLaw" 18 yX13_init ∈ tblG := tgm (in_t7 _ (List.mem_of_getElem? (i := 1) rfl)) rfl
theorem w_1580 : Cond.instanceMethod yX13_init ∈ tblG := tgm (in_t7 _ (List.mem_of_getElem? (i := 2) rfl)) rfl
theorem w_1581 : Cond.code yX13_init cX13_init 1 none ∈ tblG := tgm (in_t7 _ (List.mem_of_getElem? (i := 3) rfl)) rfl
theorem w_1583 : Cond.fieldLink RX13 70 "HandKnotModel" "thrown" "I" ∈ tblG := tgm (in_t7 _ (List.mem_of_getElem? (i := 5) rfl)) rfl
theorem w_1584 : Cond.fieldLink RX13 73 "HandKnotModel" "trouble" "I" ∈ tblG := tgm (in_t7 _ (List.mem_of_getElem? (i := 6) rfl)) rfl
theorem w_1585 : Cond.fieldLink RX13 9 "HandKnotModel" "where" "I" ∈ tblG := tgm (in_t7 _ (List.mem_of_getElem? (i := 7) rfl)) rfl
theorem w_1586 : Cond.fieldLink RX13 310 "HandKnotModel" "tangle" "LHandKnotModel$Tangle;" ∈ tblG := tgm (in_t7 _ (List.mem_of_getElem? (i := 8) rfl)) rfl
theorem w_1587 : Cond.fieldLink RX13 165 "HandKnotModel" "read" "LHandKnotModel$Tangle;" ∈ tblG := tgm (in_t7 _ (List.mem_of_getElem? (i := 9) rfl)) rfl
theorem w_1588 : Cond.fieldLink RX13 13 "HandKnotModel" "tape" "[B" ∈ tblG := tgm (in_t7 _ (List.mem_of_getElem? (i := 10) rfl)) rfl
theorem w_1589 : Cond.fieldLink RX13 303 "HandKnotModel" "taped" "I" ∈ tblG := tgm (in_t7 _ (List.mem_of_getElem? (i := 11) rfl)) rfl
theorem w_1590 : Cond.fieldLink RX13 83 "HandKnotModel" "size" "I" ∈ tblG := tgm (in_t7 _ (List.mem_of_getElem? (i := 12) rfl)) rfl
theorem w_1591 : Cond.fieldLink RX13 101 "HandKnotModel" "spot" "I" ∈ tblG := tgm (in_t7 _ (List.mem_of_getElem? (i := 13) rfl)) rfl
theorem w_1592 : Cond.fieldLink RX13 98 "HandKnotModel" "sort" "I" ∈ tblG := tgm (in_t7 _ (List.mem_of_getElem? (i := 14) rfl)) rfl
theorem w_1593 : Cond.fieldLink RX13 107 "HandKnotModel" "place" "I" ∈ tblG := tgm (in_t7 _ (List.mem_of_getElem? (i := 15) rfl)) rfl
theorem w_1594 : Cond.fieldLink RX13 121 "HandKnotModel" "number" "I" ∈ tblG := tgm (in_t7 _ (List.mem_of_getElem? (i := 16) rfl)) rfl
theorem w_1595 : Cond.fieldLink RX13 124 "HandKnotModel" "fault" "I" ∈ tblG := tgm (in_t7 _ (List.mem_of_getElem? (i := 17) rfl)) rfl
theorem w_1596 : Cond.fieldLink RX13 127 "HandKnotModel" "wrongAt" "I" ∈ tblG := tgm (in_t7 _ (List.mem_of_getElem? (i := 18) rfl)) rfl
theorem w_1597 : Cond.fieldLink RX13 114 "HandKnotModel" "word" "J" ∈ tblG := tgm (in_t7 _ (List.mem_of_getElem? (i := 19) rfl)) rfl
theorem w_1598 : Cond.fieldLink RX13 318 "HandKnotModel" "now" "J" ∈ tblG := tgm (in_t7 _ (List.mem_of_getElem? (i := 20) rfl)) rfl
theorem w_1599 : Cond.fieldLink RX13 321 "HandKnotModel" "parted" "I" ∈ tblG := tgm (in_t7 _ (List.mem_of_getElem? (i := 21) rfl)) rfl
theorem w_1600 : Cond.fieldLink RX13 324 "HandKnotModel" "lifted" "I" ∈ tblG := tgm (in_t7 _ (List.mem_of_getElem? (i := 22) rfl)) rfl
theorem w_1601 : Cond.fieldLink RX13 327 "HandKnotModel" "seed" "I" ∈ tblG := tgm (in_t7 _ (List.mem_of_getElem? (i := 23) rfl)) rfl
theorem w_1602 : Cond.fieldLink RX13 17 "HandKnotModel" "spotOf" "[I" ∈ tblG := tgm (in_t7 _ (List.mem_of_getElem? (i := 24) rfl)) rfl
theorem w_1603 : Cond.fieldLink RX13 21 "HandKnotModel" "nextOf" "[I" ∈ tblG := tgm (in_t7 _ (List.mem_of_getElem? (i := 25) rfl)) rfl
theorem w_1604 : Cond.fieldLink RX13 24 "HandKnotModel" "come" "[J" ∈ tblG := tgm (in_t7 _ (List.mem_of_getElem? (i := 26) rfl)) rfl
theorem w_1605 : Cond.fieldLink RX13 28 "HandKnotModel" "table" "[J" ∈ tblG := tgm (in_t7 _ (List.mem_of_getElem? (i := 27) rfl)) rfl
theorem w_1606 : Cond.fieldLink RX13 453 "HandKnotModel" "many" "I" ∈ tblG := tgm (in_t7 _ (List.mem_of_getElem? (i := 28) rfl)) rfl
theorem w_1607 : Cond.fieldLink RX13 31 "HandKnotModel" "ahead" "[I" ∈ tblG := tgm (in_t7 _ (List.mem_of_getElem? (i := 29) rfl)) rfl
theorem w_1608 : Cond.fieldLink RX13 34 "HandKnotModel" "after" "[I" ∈ tblG := tgm (in_t7 _ (List.mem_of_getElem? (i := 30) rfl)) rfl
theorem w_1609 : Cond.fieldLink RX13 37 "HandKnotModel" "row" "[I" ∈ tblG := tgm (in_t7 _ (List.mem_of_getElem? (i := 31) rfl)) rfl
theorem w_1610 : Cond.fieldLink RX13 40 "HandKnotModel" "equation" "[I" ∈ tblG := tgm (in_t7 _ (List.mem_of_getElem? (i := 32) rfl)) rfl
theorem w_1611 : Cond.fieldLink RX13 478 "HandKnotModel" "arcs" "I" ∈ tblG := tgm (in_t7 _ (List.mem_of_getElem? (i := 33) rfl)) rfl
theorem w_1612 : Cond.fieldLink RX13 524 "HandKnotModel" "drawn" "I" ∈ tblG := tgm (in_t7 _ (List.mem_of_getElem? (i := 34) rfl)) rfl
theorem w_1613 : Cond.fieldLink RX13 43 "HandKnotModel" "ways" "[J" ∈ tblG := tgm (in_t7 _ (List.mem_of_getElem? (i := 35) rfl)) rfl
theorem w_1614 : Cond.fieldLink RX13 46 "HandKnotModel" "pastNow" "[J" ∈ tblG := tgm (in_t7 _ (List.mem_of_getElem? (i := 36) rfl)) rfl
theorem w_1615 : Cond.fieldLink RX13 49 "HandKnotModel" "keptNow" "[J" ∈ tblG := tgm (in_t7 _ (List.mem_of_getElem? (i := 37) rfl)) rfl
theorem w_1616 : Cond.fieldLink RX13 52 "HandKnotModel" "pastParted" "[I" ∈ tblG := tgm (in_t7 _ (List.mem_of_getElem? (i := 38) rfl)) rfl
theorem w_1617 : Cond.fieldLink RX13 55 "HandKnotModel" "pastSeed" "[I" ∈ tblG := tgm (in_t7 _ (List.mem_of_getElem? (i := 39) rfl)) rfl
theorem w_1618 : Cond.fieldLink RX13 58 "HandKnotModel" "pastLifted" "[I" ∈ tblG := tgm (in_t7 _ (List.mem_of_getElem? (i := 40) rfl)) rfl
theorem w_1619 : Cond.fieldLink RX13 61 "HandKnotModel" "keptParted" "[I" ∈ tblG := tgm (in_t7 _ (List.mem_of_getElem? (i := 41) rfl)) rfl
theorem w_1620 : Cond.fieldLink RX13 64 "HandKnotModel" "keptSeed" "[I" ∈ tblG := tgm (in_t7 _ (List.mem_of_getElem? (i := 42) rfl)) rfl
theorem w_1621 : Cond.fieldLink RX13 67 "HandKnotModel" "keptLifted" "[I" ∈ tblG := tgm (in_t7 _ (List.mem_of_getElem? (i := 43) rfl)) rfl
theorem w_1622 : Cond.fieldLink RX13 330 "HandKnotModel" "acts" "I" ∈ tblG := tgm (in_t7 _ (List.mem_of_getElem? (i := 44) rfl)) rfl
theorem w_1623 : Cond.fieldLink RX13 333 "HandKnotModel" "marks" "I" ∈ tblG := tgm (in_t7 _ (List.mem_of_getElem? (i := 45) rfl)) rfl
theorem w_1707 : Cond.methodLink "HandKnotLaw" 219 yX13_thrown ∈ tblG := tgm (in_t7 _ (List.mem_of_getElem? (i := 129) rfl)) rfl
theorem w_1708 : Cond.instanceMethod yX13_thrown ∈ tblG := tgm (in_t7 _ (List.mem_of_getElem? (i := 130) rfl)) rfl
theorem w_1709 : Cond.selects RX13 yX13_thrown yX13_thrown ∈ tblG := tgm (in_t7 _ (List.mem_of_getElem? (i := 131) rfl)) rfl
theorem w_1710 : Cond.code yX13_thrown cX13_thrown 1 (some .int) ∈ tblG := tgm (in_t7 _ (List.mem_of_getElem? (i := 132) rfl)) rfl
theorem w_1711 : Cond.methodLink "HandKnotLaw" 23 yX13_feed ∈ tblG := tgm (in_t7 _ (List.mem_of_getElem? (i := 133) rfl)) rfl
theorem w_1712 : Cond.instanceMethod yX13_feed ∈ tblG := tgm (in_t7 _ (List.mem_of_getElem? (i := 134) rfl)) rfl
theorem w_1713 : Cond.selects RX13 yX13_feed yX13_feed ∈ tblG := tgm (in_t7 _ (List.mem_of_getElem? (i := 135) rfl)) rfl
theorem w_1714 : Cond.code yX13_feed cX13_feed 8 (some .int) ∈ tblG := tgm (in_t7 _ (List.mem_of_getElem? (i := 136) rfl)) rfl
theorem w_1715 : Cond.methodLink "HandKnotLaw" 27 yX13_tangle ∈ tblG := tgm (in_t7 _ (List.mem_of_getElem? (i := 137) rfl)) rfl
theorem w_1716 : Cond.instanceMethod yX13_tangle ∈ tblG := tgm (in_t7 _ (List.mem_of_getElem? (i := 138) rfl)) rfl
theorem w_1717 : Cond.selects RX13 yX13_tangle yX13_tangle ∈ tblG := tgm (in_t7 _ (List.mem_of_getElem? (i := 139) rfl)) rfl
theorem w_1718 : Cond.code yX13_tangle cX13_tangle 2 (some .int) ∈ tblG := tgm (in_t7 _ (List.mem_of_getElem? (i := 140) rfl)) rfl
theorem w_1719 : Cond.methodLink RX13 76 yX13_refused ∈ tblG := tgm (in_t7 _ (List.mem_of_getElem? (i := 141) rfl)) rfl
theorem w_1721 : Cond.instanceMethod yX13_refused ∈ tblG := tgm (in_t7 _ (List.mem_of_getElem? (i := 143) rfl)) rfl
theorem w_1722 : Cond.code yX13_refused cX13_refused 2 (some .int) ∈ tblG := tgm (in_t7 _ (List.mem_of_getElem? (i := 144) rfl)) rfl
theorem w_1726 : Cond.instanceMethod yX12_init ∈ tblG := tgm (in_t7 _ (List.mem_of_getElem? (i := 148) rfl)) rfl
theorem w_1727 : Cond.code yX12_init cX12_init 1 none ∈ tblG := tgm (in_t7 _ (List.mem_of_getElem? (i := 149) rfl)) rfl
theorem w_1729 : Cond.fieldLink RX12 9 "HandKnotModel$Tangle" "height" "I" ∈ tblG := tgm (in_t7 _ (List.mem_of_getElem? (i := 151) rfl)) rfl
theorem w_1731 : Cond.fieldLink RX12 90 "HandKnotModel$Tangle" "people" "I" ∈ tblG := tgm (in_t7 _ (List.mem_of_getElem? (i := 153) rfl)) rfl
theorem w_1734 : Cond.fieldLink RX12 107 "HandKnotModel$Tangle" "crossings" "I" ∈ tblG := tgm (in_t7 _ (List.mem_of_getElem? (i := 156) rfl)) rfl
theorem w_1736 : Cond.fieldLink RX12 87 "HandKnotModel$Tangle" "names" "I" ∈ tblG := tgm (in_t7 _ (List.mem_of_getElem? (i := 158) rfl)) rfl
theorem w_1738 : Cond.fieldLink RX12 97 "HandKnotModel$Tangle" "rings" "I" ∈ tblG := tgm (in_t7 _ (List.mem_of_getElem? (i := 160) rfl)) rfl
theorem w_1740 : Cond.fieldLink RX12 114 "HandKnotModel$Tangle" "standings" "I" ∈ tblG := tgm (in_t7 _ (List.mem_of_getElem? (i := 162) rfl)) rfl
theorem w_1743 : Cond.fieldLink RX12 15 "HandKnotModel$Tangle" "tall" "[I" ∈ tblG := tgm (in_t7 _ (List.mem_of_getElem? (i := 165) rfl)) rfl
theorem w_1745 : Cond.fieldLink RX12 19 "HandKnotModel$Tangle" "one" "[I" ∈ tblG := tgm (in_t7 _ (List.mem_of_getElem? (i := 167) rfl)) rfl
theorem w_1747 : Cond.fieldLink RX12 22 "HandKnotModel$Tangle" "oneHand" "[I" ∈ tblG := tgm (in_t7 _ (List.mem_of_getElem? (i := 169) rfl)) rfl
theorem w_1749 : Cond.fieldLink RX12 25 "HandKnotModel$Tangle" "two" "[I" ∈ tblG := tgm (in_t7 _ (List.mem_of_getElem? (i := 171) rfl)) rfl
theorem w_1751 : Cond.fieldLink RX12 28 "HandKnotModel$Tangle" "twoHand" "[I" ∈ tblG := tgm (in_t7 _ (List.mem_of_getElem? (i := 173) rfl)) rfl
theorem w_1753 : Cond.fieldLink RX12 31 "HandKnotModel$Tangle" "linkOf" "[I" ∈ tblG := tgm (in_t7 _ (List.mem_of_getElem? (i := 175) rfl)) rfl
theorem w_1755 : Cond.fieldLink RX12 34 "HandKnotModel$Tangle" "over" "[I" ∈ tblG := tgm (in_t7 _ (List.mem_of_getElem? (i := 177) rfl)) rfl
theorem w_1757 : Cond.fieldLink RX12 37 "HandKnotModel$Tangle" "overAt" "[I" ∈ tblG := tgm (in_t7 _ (List.mem_of_getElem? (i := 179) rfl)) rfl
theorem w_1759 : Cond.fieldLink RX12 40 "HandKnotModel$Tangle" "under" "[I" ∈ tblG := tgm (in_t7 _ (List.mem_of_getElem? (i := 181) rfl)) rfl
theorem w_1761 : Cond.fieldLink RX12 43 "HandKnotModel$Tangle" "underAt" "[I" ∈ tblG := tgm (in_t7 _ (List.mem_of_getElem? (i := 183) rfl)) rfl
theorem w_1763 : Cond.fieldLink RX12 46 "HandKnotModel$Tangle" "sign" "[I" ∈ tblG := tgm (in_t7 _ (List.mem_of_getElem? (i := 185) rfl)) rfl
theorem w_1765 : Cond.fieldLink RX12 49 "HandKnotModel$Tangle" "name" "[J" ∈ tblG := tgm (in_t7 _ (List.mem_of_getElem? (i := 187) rfl)) rfl
theorem w_1767 : Cond.fieldLink RX12 53 "HandKnotModel$Tangle" "nameSort" "[I" ∈ tblG := tgm (in_t7 _ (List.mem_of_getElem? (i := 189) rfl)) rfl
theorem w_1769 : Cond.fieldLink RX12 56 "HandKnotModel$Tangle" "nameNumber" "[I" ∈ tblG := tgm (in_t7 _ (List.mem_of_getElem? (i := 191) rfl)) rfl
theorem w_1771 : Cond.fieldLink RX12 59 "HandKnotModel$Tangle" "usedAt" "[I" ∈ tblG := tgm (in_t7 _ (List.mem_of_getElem? (i := 193) rfl)) rfl
theorem w_1773 : Cond.fieldLink RX12 62 "HandKnotModel$Tangle" "ringOf" "[I" ∈ tblG := tgm (in_t7 _ (List.mem_of_getElem? (i := 195) rfl)) rfl
theorem w_1775 : Cond.fieldLink RX12 65 "HandKnotModel$Tangle" "linkRing" "[I" ∈ tblG := tgm (in_t7 _ (List.mem_of_getElem? (i := 197) rfl)) rfl
theorem w_1777 : Cond.fieldLink RX12 68 "HandKnotModel$Tangle" "linkRow" "[I" ∈ tblG := tgm (in_t7 _ (List.mem_of_getElem? (i := 199) rfl)) rfl
theorem w_1779 : Cond.fieldLink RX12 71 "HandKnotModel$Tangle" "member" "[I" ∈ tblG := tgm (in_t7 _ (List.mem_of_getElem? (i := 201) rfl)) rfl
theorem w_1781 : Cond.fieldLink RX12 74 "HandKnotModel$Tangle" "size" "[I" ∈ tblG := tgm (in_t7 _ (List.mem_of_getElem? (i := 203) rfl)) rfl
theorem w_1783 : Cond.fieldLink RX12 77 "HandKnotModel$Tangle" "along" "[Z" ∈ tblG := tgm (in_t7 _ (List.mem_of_getElem? (i := 205) rfl)) rfl
theorem w_1785 : Cond.fieldLink RX12 81 "HandKnotModel$Tangle" "standRing" "[I" ∈ tblG := tgm (in_t7 _ (List.mem_of_getElem? (i := 207) rfl)) rfl
theorem w_1787 : Cond.fieldLink RX12 84 "HandKnotModel$Tangle" "standLink" "[I" ∈ tblG := tgm (in_t7 _ (List.mem_of_getElem? (i := 209) rfl)) rfl
theorem w_1789 : Cond.fieldLink RX12 117 "HandKnotModel$Tangle" "first" "J" ∈ tblG := tgm (in_t7 _ (List.mem_of_getElem? (i := 211) rfl)) rfl
theorem w_1856 : Cond.methodLink RX13 138 yX13_goesOn ∈ tblG := tgm (in_t8 _ (List.mem_of_getElem? (i := 38) rfl)) rfl
theorem w_1858 : Cond.instanceMethod yX13_goesOn ∈ tblG := tgm (in_t8 _ (List.mem_of_getElem? (i := 40) rfl)) rfl
theorem w_1859 : Cond.code yX13_goesOn cX13_goesOn 3 none ∈ tblG := tgm (in_t8 _ (List.mem_of_getElem? (i := 41) rfl)) rfl
theorem w_1860 : Cond.methodLink RX13 104 yX13_byteAt ∈ tblG := tgm (in_t8 _ (List.mem_of_getElem? (i := 42) rfl)) rfl
theorem w_1862 : Cond.instanceMethod yX13_byteAt ∈ tblG := tgm (in_t8 _ (List.mem_of_getElem? (i := 44) rfl)) rfl
theorem w_1863 : Cond.code yX13_byteAt cX13_byteAt 2 (some .int) ∈ tblG := tgm (in_t8 _ (List.mem_of_getElem? (i := 45) rfl)) rfl
theorem w_1864 : Cond.methodLink RX13 110 yX13_isLetter ∈ tblG := tgm (in_t8 _ (List.mem_of_getElem? (i := 46) rfl)) rfl
theorem w_1865 : Cond.static yX13_isLetter ∈ tblG := tgm (in_t8 _ (List.mem_of_getElem? (i := 47) rfl)) rfl
theorem w_1866 : Cond.code yX13_isLetter cX13_isLetter 1 (some .boolean) ∈ tblG := tgm (in_t8 _ (List.mem_of_getElem? (i := 48) rfl)) rfl
theorem w_1867 : Cond.constantLong RX13 92 (32 : Int64) ∈ tblG := tgm (in_t8 _ (List.mem_of_getElem? (i := 49) rfl)) rfl
theorem w_1868 : Cond.methodLink RX13 118 yX13_isDigit ∈ tblG := tgm (in_t8 _ (List.mem_of_getElem? (i := 50) rfl)) rfl
theorem w_1869 : Cond.static yX13_isDigit ∈ tblG := tgm (in_t8 _ (List.mem_of_getElem? (i := 51) rfl)) rfl
theorem w_1870 : Cond.code yX13_isDigit cX13_isDigit 1 (some .boolean) ∈ tblG := tgm (in_t8 _ (List.mem_of_getElem? (i := 52) rfl)) rfl
theorem w_1871 : Cond.methodLink RX13 307 yX13_readAll ∈ tblG := tgm (in_t8 _ (List.mem_of_getElem? (i := 53) rfl)) rfl
theorem w_1873 : Cond.instanceMethod yX13_readAll ∈ tblG := tgm (in_t8 _ (List.mem_of_getElem? (i := 55) rfl)) rfl
theorem w_1874 : Cond.code yX13_readAll cX13_readAll 2 none ∈ tblG := tgm (in_t8 _ (List.mem_of_getElem? (i := 56) rfl)) rfl
theorem w_1875 : Cond.methodLink RX13 194 yX13_readLine ∈ tblG := tgm (in_t8 _ (List.mem_of_getElem? (i := 57) rfl)) rfl
theorem w_1877 : Cond.instanceMethod yX13_readLine ∈ tblG := tgm (in_t8 _ (List.mem_of_getElem? (i := 59) rfl)) rfl
theorem w_1878 : Cond.code yX13_readLine cX13_readLine 1 none ∈ tblG := tgm (in_t8 _ (List.mem_of_getElem? (i := 60) rfl)) rfl
theorem w_1880 : Cond.methodLink RX13 134 yX13_isWord ∈ tblG := tgm (in_t8 _ (List.mem_of_getElem? (i := 62) rfl)) rfl
theorem w_1882 : Cond.instanceMethod yX13_isWord ∈ tblG := tgm (in_t8 _ (List.mem_of_getElem? (i := 64) rfl)) rfl
theorem w_1883 : Cond.code yX13_isWord cX13_isWord 2 (some .boolean) ∈ tblG := tgm (in_t8 _ (List.mem_of_getElem? (i := 65) rfl)) rfl
theorem w_1884 : Cond.methodLink RX13 130 yX13_wordOf ∈ tblG := tgm (in_t8 _ (List.mem_of_getElem? (i := 66) rfl)) rfl
theorem w_1885 : Cond.static yX13_wordOf ∈ tblG := tgm (in_t8 _ (List.mem_of_getElem? (i := 67) rfl)) rfl
theorem w_1886 : Cond.code yX13_wordOf cX13_wordOf 4 (some .long) ∈ tblG := tgm (in_t8 _ (List.mem_of_getElem? (i := 68) rfl)) rfl
theorem w_1887 : Cond.methodLink RX13 86 yJ0_length_8abf5 ∈ tblG := tgm (in_t8 _ (List.mem_of_getElem? (i := 69) rfl)) rfl
theorem w_1888 : Cond.methodLink RX13 94 yJ0_charAt_5068e ∈ tblG := tgm (in_t8 _ (List.mem_of_getElem? (i := 70) rfl)) rfl
theorem w_1889 : Cond.methodLink RX13 206 yX13_readTangle ∈ tblG := tgm (in_t8 _ (List.mem_of_getElem? (i := 71) rfl)) rfl
theorem w_1891 : Cond.instanceMethod yX13_readTangle ∈ tblG := tgm (in_t8 _ (List.mem_of_getElem? (i := 73) rfl)) rfl
theorem w_1892 : Cond.code yX13_readTangle cX13_readTangle 3 none ∈ tblG := tgm (in_t8 _ (List.mem_of_getElem? (i := 74) rfl)) rfl
theorem w_1893 : Cond.methodLink RX13 141 yX13_flaw ∈ tblG := tgm (in_t8 _ (List.mem_of_getElem? (i := 75) rfl)) rfl
theorem w_1895 : Cond.instanceMethod yX13_flaw ∈ tblG := tgm (in_t8 _ (List.mem_of_getElem? (i := 77) rfl)) rfl
theorem w_1896 : Cond.code yX13_flaw cX13_flaw 2 none ∈ tblG := tgm (in_t8 _ (List.mem_of_getElem? (i := 78) rfl)) rfl
theorem w_1898 : Cond.methodLink RX13 220 yX13_readPart ∈ tblG := tgm (in_t8 _ (List.mem_of_getElem? (i := 80) rfl)) rfl
theorem w_1900 : Cond.instanceMethod yX13_readPart ∈ tblG := tgm (in_t8 _ (List.mem_of_getElem? (i := 82) rfl)) rfl
theorem w_1901 : Cond.code yX13_readPart cX13_readPart 5 (some .int) ∈ tblG := tgm (in_t8 _ (List.mem_of_getElem? (i := 83) rfl)) rfl
theorem w_1902 : Cond.methodLink RX13 149 yX13_needs ∈ tblG := tgm (in_t8 _ (List.mem_of_getElem? (i := 84) rfl)) rfl
theorem w_1904 : Cond.instanceMethod yX13_needs ∈ tblG := tgm (in_t8 _ (List.mem_of_getElem? (i := 86) rfl)) rfl
theorem w_1905 : Cond.code yX13_needs cX13_needs 2 none ∈ tblG := tgm (in_t8 _ (List.mem_of_getElem? (i := 87) rfl)) rfl
theorem w_1906 : Cond.methodLink RX13 153 yX13_bounded ∈ tblG := tgm (in_t8 _ (List.mem_of_getElem? (i := 88) rfl)) rfl
theorem w_1908 : Cond.instanceMethod yX13_bounded ∈ tblG := tgm (in_t8 _ (List.mem_of_getElem? (i := 90) rfl)) rfl
theorem w_1909 : Cond.code yX13_bounded cX13_bounded 3 (some .int) ∈ tblG := tgm (in_t8 _ (List.mem_of_getElem? (i := 91) rfl)) rfl
theorem w_1910 : Cond.methodLink RX13 145 yX13_in ∈ tblG := tgm (in_t8 _ (List.mem_of_getElem? (i := 92) rfl)) rfl
theorem w_1911 : Cond.static yX13_in ∈ tblG := tgm (in_t8 _ (List.mem_of_getElem? (i := 93) rfl)) rfl
theorem w_1912 : Cond.code yX13_in cX13_in 3 (some .boolean) ∈ tblG := tgm (in_t8 _ (List.mem_of_getElem? (i := 94) rfl)) rfl
theorem w_1914 : Cond.methodLink RX13 226 yX13_eatsWord ∈ tblG := tgm (in_t8 _ (List.mem_of_getElem? (i := 96) rfl)) rfl
theorem w_1916 : Cond.instanceMethod yX13_eatsWord ∈ tblG := tgm (in_t8 _ (List.mem_of_getElem? (i := 98) rfl)) rfl
theorem w_1917 : Cond.code yX13_eatsWord cX13_eatsWord 3 (some .boolean) ∈ tblG := tgm (in_t8 _ (List.mem_of_getElem? (i := 99) rfl)) rfl
theorem w_1919 : Cond.methodLink RX13 209 yX13_readPerson ∈ tblG := tgm (in_t8 _ (List.mem_of_getElem? (i := 101) rfl)) rfl
theorem w_1921 : Cond.instanceMethod yX13_readPerson ∈ tblG := tgm (in_t8 _ (List.mem_of_getElem? (i := 103) rfl)) rfl
theorem w_1922 : Cond.code yX13_readPerson cX13_readPerson 4 none ∈ tblG := tgm (in_t8 _ (List.mem_of_getElem? (i := 104) rfl)) rfl
theorem w_1923 : Cond.methodLink RX13 232 yX13_begins ∈ tblG := tgm (in_t8 _ (List.mem_of_getElem? (i := 105) rfl)) rfl
theorem w_1925 : Cond.instanceMethod yX13_begins ∈ tblG := tgm (in_t8 _ (List.mem_of_getElem? (i := 107) rfl)) rfl
theorem w_1926 : Cond.code yX13_begins cX13_begins 3 none ∈ tblG := tgm (in_t8 _ (List.mem_of_getElem? (i := 108) rfl)) rfl
theorem w_1927 : Cond.methodLink RX13 236 yX13_readFresh ∈ tblG := tgm (in_t8 _ (List.mem_of_getElem? (i := 109) rfl)) rfl
theorem w_1929 : Cond.instanceMethod yX13_readFresh ∈ tblG := tgm (in_t8 _ (List.mem_of_getElem? (i := 111) rfl)) rfl
theorem w_1930 : Cond.code yX13_readFresh cX13_readFresh 3 (some .long) ∈ tblG := tgm (in_t8 _ (List.mem_of_getElem? (i := 112) rfl)) rfl
theorem w_1931 : Cond.methodLink RX13 174 yX13_isName ∈ tblG := tgm (in_t8 _ (List.mem_of_getElem? (i := 113) rfl)) rfl
theorem w_1933 : Cond.instanceMethod yX13_isName ∈ tblG := tgm (in_t8 _ (List.mem_of_getElem? (i := 115) rfl)) rfl
theorem w_1934 : Cond.code yX13_isName cX13_isName 1 (some .boolean) ∈ tblG := tgm (in_t8 _ (List.mem_of_getElem? (i := 116) rfl)) rfl
theorem w_1937 : Cond.methodLink RX13 178 yX12_find ∈ tblG := tgm (in_t8 _ (List.mem_of_getElem? (i := 119) rfl)) rfl
theorem w_1938 : Cond.instanceMethod yX12_find ∈ tblG := tgm (in_t8 _ (List.mem_of_getElem? (i := 120) rfl)) rfl
theorem w_1939 : Cond.selects RX12 yX12_find yX12_find ∈ tblG := tgm (in_t8 _ (List.mem_of_getElem? (i := 121) rfl)) rfl
theorem w_1940 : Cond.code yX12_find cX12_find 4 (some .int) ∈ tblG := tgm (in_t8 _ (List.mem_of_getElem? (i := 122) rfl)) rfl
theorem w_1941 : Cond.methodLink RX13 240 yX13_names ∈ tblG := tgm (in_t8 _ (List.mem_of_getElem? (i := 123) rfl)) rfl
theorem w_1943 : Cond.instanceMethod yX13_names ∈ tblG := tgm (in_t8 _ (List.mem_of_getElem? (i := 125) rfl)) rfl
theorem w_1944 : Cond.code yX13_names cX13_names 5 none ∈ tblG := tgm (in_t8 _ (List.mem_of_getElem? (i := 126) rfl)) rfl
theorem w_1945 : Cond.methodLink RX13 212 yX13_readHold ∈ tblG := tgm (in_t8 _ (List.mem_of_getElem? (i := 127) rfl)) rfl
theorem w_1947 : Cond.instanceMethod yX13_readHold ∈ tblG := tgm (in_t8 _ (List.mem_of_getElem? (i := 129) rfl)) rfl
theorem w_1948 : Cond.code yX13_readHold cX13_readHold 8 none ∈ tblG := tgm (in_t8 _ (List.mem_of_getElem? (i := 130) rfl)) rfl
theorem w_1949 : Cond.methodLink RX13 258 yX13_known ∈ tblG := tgm (in_t8 _ (List.mem_of_getElem? (i := 131) rfl)) rfl
theorem w_1951 : Cond.instanceMethod yX13_known ∈ tblG := tgm (in_t8 _ (List.mem_of_getElem? (i := 133) rfl)) rfl
theorem w_1952 : Cond.code yX13_known cX13_known 3 (some .int) ∈ tblG := tgm (in_t8 _ (List.mem_of_getElem? (i := 134) rfl)) rfl
theorem w_1953 : Cond.methodLink RX13 261 yX13_readHand ∈ tblG := tgm (in_t8 _ (List.mem_of_getElem? (i := 135) rfl)) rfl
theorem w_1955 : Cond.instanceMethod yX13_readHand ∈ tblG := tgm (in_t8 _ (List.mem_of_getElem? (i := 137) rfl)) rfl
theorem w_1956 : Cond.code yX13_readHand cX13_readHand 4 (some .int) ∈ tblG := tgm (in_t8 _ (List.mem_of_getElem? (i := 138) rfl)) rfl
theorem w_1959 : Cond.methodLink RX13 264 yX13_isHeld ∈ tblG := tgm (in_t8 _ (List.mem_of_getElem? (i := 141) rfl)) rfl
theorem w_1961 : Cond.instanceMethod yX13_isHeld ∈ tblG := tgm (in_t8 _ (List.mem_of_getElem? (i := 143) rfl)) rfl
theorem w_1962 : Cond.code yX13_isHeld cX13_isHeld 4 (some .boolean) ∈ tblG := tgm (in_t8 _ (List.mem_of_getElem? (i := 144) rfl)) rfl
theorem w_1963 : Cond.methodLink RX13 215 yX13_readCross ∈ tblG := tgm (in_t8 _ (List.mem_of_getElem? (i := 145) rfl)) rfl
theorem w_1965 : Cond.instanceMethod yX13_readCross ∈ tblG := tgm (in_t8 _ (List.mem_of_getElem? (i := 147) rfl)) rfl
theorem w_1966 : Cond.code yX13_readCross cX13_readCross 7 none ∈ tblG := tgm (in_t8 _ (List.mem_of_getElem? (i := 148) rfl)) rfl
theorem w_1967 : Cond.methodLink RX13 280 yX13_readPlace ∈ tblG := tgm (in_t8 _ (List.mem_of_getElem? (i := 149) rfl)) rfl
theorem w_1969 : Cond.instanceMethod yX13_readPlace ∈ tblG := tgm (in_t8 _ (List.mem_of_getElem? (i := 151) rfl)) rfl
theorem w_1970 : Cond.code yX13_readPlace cX13_readPlace 4 (some .int) ∈ tblG := tgm (in_t8 _ (List.mem_of_getElem? (i := 152) rfl)) rfl
theorem w_1974 : Cond.methodLink RX13 197 yX13_eatsSemicolon ∈ tblG := tgm (in_t8 _ (List.mem_of_getElem? (i := 156) rfl)) rfl
theorem w_1976 : Cond.instanceMethod yX13_eatsSemicolon ∈ tblG := tgm (in_t8 _ (List.mem_of_getElem? (i := 158) rfl)) rfl
theorem w_1977 : Cond.code yX13_eatsSemicolon cX13_eatsSemicolon 2 (some .boolean) ∈ tblG := tgm (in_t8 _ (List.mem_of_getElem? (i := 159) rfl)) rfl
theorem w_1978 : Cond.methodLink RX13 312 yX12_laysRings ∈ tblG := tgm (in_t8 _ (List.mem_of_getElem? (i := 160) rfl)) rfl
theorem w_1979 : Cond.instanceMethod yX12_laysRings ∈ tblG := tgm (in_t8 _ (List.mem_of_getElem? (i := 161) rfl)) rfl
theorem w_1980 : Cond.selects RX12 yX12_laysRings yX12_laysRings ∈ tblG := tgm (in_t8 _ (List.mem_of_getElem? (i := 162) rfl)) rfl
theorem w_1981 : Cond.code yX12_laysRings cX12_laysRings 2 none ∈ tblG := tgm (in_t8 _ (List.mem_of_getElem? (i := 163) rfl)) rfl
theorem w_1982 : Cond.methodLink RX12 93 yX12_laysRing ∈ tblG := tgm (in_t8 _ (List.mem_of_getElem? (i := 164) rfl)) rfl
theorem w_1984 : Cond.instanceMethod yX12_laysRing ∈ tblG := tgm (in_t8 _ (List.mem_of_getElem? (i := 166) rfl)) rfl
theorem w_1985 : Cond.code yX12_laysRing cX12_laysRing 5 none ∈ tblG := tgm (in_t8 _ (List.mem_of_getElem? (i := 167) rfl)) rfl
theorem w_1986 : Cond.methodLink RX12 100 yX12_laysStandings ∈ tblG := tgm (in_t8 _ (List.mem_of_getElem? (i := 168) rfl)) rfl
theorem w_1988 : Cond.instanceMethod yX12_laysStandings ∈ tblG := tgm (in_t8 _ (List.mem_of_getElem? (i := 170) rfl)) rfl
theorem w_1989 : Cond.code yX12_laysStandings cX12_laysStandings 5 none ∈ tblG := tgm (in_t8 _ (List.mem_of_getElem? (i := 171) rfl)) rfl
theorem w_1990 : Cond.methodLink RX12 110 yX12_stands ∈ tblG := tgm (in_t8 _ (List.mem_of_getElem? (i := 172) rfl)) rfl
theorem w_1992 : Cond.instanceMethod yX12_stands ∈ tblG := tgm (in_t8 _ (List.mem_of_getElem? (i := 174) rfl)) rfl
theorem w_1993 : Cond.code yX12_stands cX12_stands 3 none ∈ tblG := tgm (in_t8 _ (List.mem_of_getElem? (i := 175) rfl)) rfl
theorem w_1994 : Cond.methodLink RX12 103 yX12_other ∈ tblG := tgm (in_t8 _ (List.mem_of_getElem? (i := 176) rfl)) rfl
theorem w_1995 : Cond.instanceMethod yX12_other ∈ tblG := tgm (in_t8 _ (List.mem_of_getElem? (i := 177) rfl)) rfl
theorem w_1996 : Cond.selects RX12 yX12_other yX12_other ∈ tblG := tgm (in_t8 _ (List.mem_of_getElem? (i := 178) rfl)) rfl
theorem w_1997 : Cond.code yX12_other cX12_other 3 (some .int) ∈ tblG := tgm (in_t8 _ (List.mem_of_getElem? (i := 179) rfl)) rfl
theorem w_1998 : Cond.methodLink RX13 80 yX13_good ∈ tblG := tgm (in_t8 _ (List.mem_of_getElem? (i := 180) rfl)) rfl
theorem w_2000 : Cond.instanceMethod yX13_good ∈ tblG := tgm (in_t8 _ (List.mem_of_getElem? (i := 182) rfl)) rfl
theorem w_2001 : Cond.code yX13_good cX13_good 2 (some .int) ∈ tblG := tgm (in_t8 _ (List.mem_of_getElem? (i := 183) rfl)) rfl
theorem w_2002 : Cond.methodLink "HandKnotLaw" 32 yX13_fault ∈ tblG := tgm (in_t8 _ (List.mem_of_getElem? (i := 184) rfl)) rfl
theorem w_2003 : Cond.instanceMethod yX13_fault ∈ tblG := tgm (in_t8 _ (List.mem_of_getElem? (i := 185) rfl)) rfl
theorem w_2004 : Cond.selects RX13 yX13_fault yX13_fault ∈ tblG := tgm (in_t8 _ (List.mem_of_getElem? (i := 186) rfl)) rfl
theorem w_2005 : Cond.code yX13_fault cX13_fault 1 (some .int) ∈ tblG := tgm (in_t8 _ (List.mem_of_getElem? (i := 187) rfl)) rfl
theorem w_2006 : Cond.methodLink "HandKnotLaw" 36 yX13_where ∈ tblG := tgm (in_t8 _ (List.mem_of_getElem? (i := 188) rfl)) rfl
theorem w_2007 : Cond.instanceMethod yX13_where ∈ tblG := tgm (in_t8 _ (List.mem_of_getElem? (i := 189) rfl)) rfl
theorem w_2008 : Cond.selects RX13 yX13_where yX13_where ∈ tblG := tgm (in_t8 _ (List.mem_of_getElem? (i := 190) rfl)) rfl
theorem w_2009 : Cond.code yX13_where cX13_where 1 (some .int) ∈ tblG := tgm (in_t8 _ (List.mem_of_getElem? (i := 191) rfl)) rfl
theorem w_2010 : Cond.methodLink "HandKnotLaw" 40 yX13_ring ∈ tblG := tgm (in_t8 _ (List.mem_of_getElem? (i := 192) rfl)) rfl
theorem w_2011 : Cond.instanceMethod yX13_ring ∈ tblG := tgm (in_t8 _ (List.mem_of_getElem? (i := 193) rfl)) rfl
theorem w_2012 : Cond.selects RX13 yX13_ring yX13_ring ∈ tblG := tgm (in_t8 _ (List.mem_of_getElem? (i := 194) rfl)) rfl
theorem w_2013 : Cond.code yX13_ring cX13_ring 2 (some .int) ∈ tblG := tgm (in_t8 _ (List.mem_of_getElem? (i := 195) rfl)) rfl
theorem w_2014 : Cond.methodLink RX13 406 yX13_isPerson ∈ tblG := tgm (in_t8 _ (List.mem_of_getElem? (i := 196) rfl)) rfl
theorem w_2016 : Cond.instanceMethod yX13_isPerson ∈ tblG := tgm (in_t8 _ (List.mem_of_getElem? (i := 198) rfl)) rfl
theorem w_2017 : Cond.code yX13_isPerson cX13_isPerson 2 (some .boolean) ∈ tblG := tgm (in_t8 _ (List.mem_of_getElem? (i := 199) rfl)) rfl
theorem w_2018 : Cond.methodLink "HandKnotLaw" 44 yX13_people ∈ tblG := tgm (in_t8 _ (List.mem_of_getElem? (i := 200) rfl)) rfl
theorem w_2019 : Cond.instanceMethod yX13_people ∈ tblG := tgm (in_t8 _ (List.mem_of_getElem? (i := 201) rfl)) rfl
theorem w_2020 : Cond.selects RX13 yX13_people yX13_people ∈ tblG := tgm (in_t8 _ (List.mem_of_getElem? (i := 202) rfl)) rfl
theorem w_2021 : Cond.code yX13_people cX13_people 2 (some .int) ∈ tblG := tgm (in_t8 _ (List.mem_of_getElem? (i := 203) rfl)) rfl
theorem w_2022 : Cond.methodLink RX13 412 yX13_isRing ∈ tblG := tgm (in_t8 _ (List.mem_of_getElem? (i := 204) rfl)) rfl
theorem w_2024 : Cond.instanceMethod yX13_isRing ∈ tblG := tgm (in_t8 _ (List.mem_of_getElem? (i := 206) rfl)) rfl
theorem w_2025 : Cond.code yX13_isRing cX13_isRing 2 (some .boolean) ∈ tblG := tgm (in_t8 _ (List.mem_of_getElem? (i := 207) rfl)) rfl
theorem w_2026 : Cond.methodLink "HandKnotLaw" 49 yX13_member ∈ tblG := tgm (in_t8 _ (List.mem_of_getElem? (i := 208) rfl)) rfl
theorem w_2027 : Cond.instanceMethod yX13_member ∈ tblG := tgm (in_t8 _ (List.mem_of_getElem? (i := 209) rfl)) rfl
theorem w_2028 : Cond.selects RX13 yX13_member yX13_member ∈ tblG := tgm (in_t8 _ (List.mem_of_getElem? (i := 210) rfl)) rfl
theorem w_2029 : Cond.code yX13_member cX13_member 3 (some .int) ∈ tblG := tgm (in_t8 _ (List.mem_of_getElem? (i := 211) rfl)) rfl
theorem w_2030 : Cond.methodLink "HandKnotLaw" 54 yX13_holds ∈ tblG := tgm (in_t8 _ (List.mem_of_getElem? (i := 212) rfl)) rfl
theorem w_2031 : Cond.instanceMethod yX13_holds ∈ tblG := tgm (in_t8 _ (List.mem_of_getElem? (i := 213) rfl)) rfl
theorem w_2032 : Cond.selects RX13 yX13_holds yX13_holds ∈ tblG := tgm (in_t8 _ (List.mem_of_getElem? (i := 214) rfl)) rfl
theorem w_2033 : Cond.code yX13_holds cX13_holds 3 (some .int) ∈ tblG := tgm (in_t8 _ (List.mem_of_getElem? (i := 215) rfl)) rfl
theorem w_2034 : Cond.methodLink RX13 420 yX12_other ∈ tblG := tgm (in_t8 _ (List.mem_of_getElem? (i := 216) rfl)) rfl
theorem w_2035 : Cond.methodLink "HandKnotLaw" 58 yX13_along ∈ tblG := tgm (in_t8 _ (List.mem_of_getElem? (i := 217) rfl)) rfl
theorem w_2036 : Cond.instanceMethod yX13_along ∈ tblG := tgm (in_t8 _ (List.mem_of_getElem? (i := 218) rfl)) rfl
theorem w_2037 : Cond.selects RX13 yX13_along yX13_along ∈ tblG := tgm (in_t8 _ (List.mem_of_getElem? (i := 219) rfl)) rfl
theorem w_2038 : Cond.code yX13_along cX13_along 2 (some .int) ∈ tblG := tgm (in_t8 _ (List.mem_of_getElem? (i := 220) rfl)) rfl
theorem w_2039 : Cond.methodLink RX13 423 yX13_isLink ∈ tblG := tgm (in_t8 _ (List.mem_of_getElem? (i := 221) rfl)) rfl
theorem w_2041 : Cond.instanceMethod yX13_isLink ∈ tblG := tgm (in_t8 _ (List.mem_of_getElem? (i := 223) rfl)) rfl
theorem w_2042 : Cond.code yX13_isLink cX13_isLink 2 (some .boolean) ∈ tblG := tgm (in_t8 _ (List.mem_of_getElem? (i := 224) rfl)) rfl
theorem w_2043 : Cond.methodLink "HandKnotLaw" 62 yX13_stands ∈ tblG := tgm (in_t8 _ (List.mem_of_getElem? (i := 225) rfl)) rfl
theorem w_2044 : Cond.instanceMethod yX13_stands ∈ tblG := tgm (in_t8 _ (List.mem_of_getElem? (i := 226) rfl)) rfl
theorem w_2045 : Cond.selects RX13 yX13_stands yX13_stands ∈ tblG := tgm (in_t8 _ (List.mem_of_getElem? (i := 227) rfl)) rfl
theorem w_2046 : Cond.code yX13_stands cX13_stands 2 (some .int) ∈ tblG := tgm (in_t8 _ (List.mem_of_getElem? (i := 228) rfl)) rfl
theorem w_2047 : Cond.methodLink RX13 430 yX13_isStanding ∈ tblG := tgm (in_t8 _ (List.mem_of_getElem? (i := 229) rfl)) rfl
theorem w_2049 : Cond.instanceMethod yX13_isStanding ∈ tblG := tgm (in_t8 _ (List.mem_of_getElem? (i := 231) rfl)) rfl
theorem w_2050 : Cond.code yX13_isStanding cX13_isStanding 2 (some .boolean) ∈ tblG := tgm (in_t8 _ (List.mem_of_getElem? (i := 232) rfl)) rfl
theorem w_2051 : Cond.methodLink RX13 349 yX13_at ∈ tblG := tgm (in_t8 _ (List.mem_of_getElem? (i := 233) rfl)) rfl
theorem w_2052 : Cond.static yX13_at ∈ tblG := tgm (in_t8 _ (List.mem_of_getElem? (i := 234) rfl)) rfl
theorem w_2053 : Cond.code yX13_at cX13_at 3 (some .int) ∈ tblG := tgm (in_t8 _ (List.mem_of_getElem? (i := 235) rfl)) rfl
theorem w_2054 : Cond.constantLong RX13 342 (15 : Int64) ∈ tblG := tgm (in_t8 _ (List.mem_of_getElem? (i := 236) rfl)) rfl
theorem w_2055 : Cond.methodLink "HandKnotLaw" 66 yX13_place ∈ tblG := tgm (in_t8 _ (List.mem_of_getElem? (i := 237) rfl)) rfl
theorem w_2056 : Cond.instanceMethod yX13_place ∈ tblG := tgm (in_t8 _ (List.mem_of_getElem? (i := 238) rfl)) rfl
theorem w_2057 : Cond.selects RX13 yX13_place yX13_place ∈ tblG := tgm (in_t8 _ (List.mem_of_getElem? (i := 239) rfl)) rfl
theorem w_2058 : Cond.code yX13_place cX13_place 3 (some .int) ∈ tblG := tgm (in_t9 _ (List.mem_of_getElem? (i := 0) rfl)) rfl
theorem w_2059 : Cond.methodLink "HandKnotLaw" 70 yX13_sign ∈ tblG := tgm (in_t9 _ (List.mem_of_getElem? (i := 1) rfl)) rfl
theorem w_2060 : Cond.instanceMethod yX13_sign ∈ tblG := tgm (in_t9 _ (List.mem_of_getElem? (i := 2) rfl)) rfl
theorem w_2061 : Cond.selects RX13 yX13_sign yX13_sign ∈ tblG := tgm (in_t9 _ (List.mem_of_getElem? (i := 3) rfl)) rfl
theorem w_2062 : Cond.code yX13_sign cX13_sign 2 (some .int) ∈ tblG := tgm (in_t9 _ (List.mem_of_getElem? (i := 4) rfl)) rfl
theorem w_2063 : Cond.methodLink RX13 437 yX13_lost ∈ tblG := tgm (in_t9 _ (List.mem_of_getElem? (i := 5) rfl)) rfl
theorem w_2065 : Cond.instanceMethod yX13_lost ∈ tblG := tgm (in_t9 _ (List.mem_of_getElem? (i := 7) rfl)) rfl
theorem w_2066 : Cond.code yX13_lost cX13_lost 2 (some .int) ∈ tblG := tgm (in_t9 _ (List.mem_of_getElem? (i := 8) rfl)) rfl
theorem w_2067 : Cond.methodLink RX13 440 yX13_isLeft ∈ tblG := tgm (in_t9 _ (List.mem_of_getElem? (i := 9) rfl)) rfl
theorem w_2069 : Cond.instanceMethod yX13_isLeft ∈ tblG := tgm (in_t9 _ (List.mem_of_getElem? (i := 11) rfl)) rfl
theorem w_2070 : Cond.code yX13_isLeft cX13_isLeft 2 (some .boolean) ∈ tblG := tgm (in_t9 _ (List.mem_of_getElem? (i := 12) rfl)) rfl
theorem w_2071 : Cond.methodLink RX13 433 yX13_looks ∈ tblG := tgm (in_t9 _ (List.mem_of_getElem? (i := 13) rfl)) rfl
theorem w_2073 : Cond.instanceMethod yX13_looks ∈ tblG := tgm (in_t9 _ (List.mem_of_getElem? (i := 15) rfl)) rfl
theorem w_2074 : Cond.code yX13_looks cX13_looks 4 none ∈ tblG := tgm (in_t9 _ (List.mem_of_getElem? (i := 16) rfl)) rfl
theorem w_2075 : Cond.methodLink RX13 353 yX13_nextFrom ∈ tblG := tgm (in_t9 _ (List.mem_of_getElem? (i := 17) rfl)) rfl
theorem w_2077 : Cond.instanceMethod yX13_nextFrom ∈ tblG := tgm (in_t9 _ (List.mem_of_getElem? (i := 19) rfl)) rfl
theorem w_2078 : Cond.code yX13_nextFrom cX13_nextFrom 6 (some .int) ∈ tblG := tgm (in_t9 _ (List.mem_of_getElem? (i := 20) rfl)) rfl
theorem w_2079 : Cond.methodLink RX13 365 yX13_isOpen ∈ tblG := tgm (in_t9 _ (List.mem_of_getElem? (i := 21) rfl)) rfl
theorem w_2081 : Cond.instanceMethod yX13_isOpen ∈ tblG := tgm (in_t9 _ (List.mem_of_getElem? (i := 23) rfl)) rfl
theorem w_2082 : Cond.code yX13_isOpen cX13_isOpen 4 (some .boolean) ∈ tblG := tgm (in_t9 _ (List.mem_of_getElem? (i := 24) rfl)) rfl
theorem w_2083 : Cond.methodLink RX13 377 yX13_signNow ∈ tblG := tgm (in_t9 _ (List.mem_of_getElem? (i := 25) rfl)) rfl
theorem w_2085 : Cond.instanceMethod yX13_signNow ∈ tblG := tgm (in_t9 _ (List.mem_of_getElem? (i := 27) rfl)) rfl
theorem w_2086 : Cond.code yX13_signNow cX13_signNow 2 (some .int) ∈ tblG := tgm (in_t9 _ (List.mem_of_getElem? (i := 28) rfl)) rfl
theorem w_2087 : Cond.methodLink RX13 339 yX12_signOf ∈ tblG := tgm (in_t9 _ (List.mem_of_getElem? (i := 29) rfl)) rfl
theorem w_2088 : Cond.instanceMethod yX12_signOf ∈ tblG := tgm (in_t9 _ (List.mem_of_getElem? (i := 30) rfl)) rfl
theorem w_2089 : Cond.selects RX12 yX12_signOf yX12_signOf ∈ tblG := tgm (in_t9 _ (List.mem_of_getElem? (i := 31) rfl)) rfl
theorem w_2090 : Cond.code yX12_signOf cX12_signOf 3 (some .int) ∈ tblG := tgm (in_t9 _ (List.mem_of_getElem? (i := 32) rfl)) rfl
theorem w_2091 : Cond.methodLink "HandKnotLaw" 74 yX13_left ∈ tblG := tgm (in_t9 _ (List.mem_of_getElem? (i := 33) rfl)) rfl
theorem w_2092 : Cond.instanceMethod yX13_left ∈ tblG := tgm (in_t9 _ (List.mem_of_getElem? (i := 34) rfl)) rfl
theorem w_2093 : Cond.selects RX13 yX13_left yX13_left ∈ tblG := tgm (in_t9 _ (List.mem_of_getElem? (i := 35) rfl)) rfl
theorem w_2094 : Cond.code yX13_left cX13_left 1 (some .int) ∈ tblG := tgm (in_t9 _ (List.mem_of_getElem? (i := 36) rfl)) rfl
theorem w_2095 : Cond.methodLink RX13 443 yX13_leftIn ∈ tblG := tgm (in_t9 _ (List.mem_of_getElem? (i := 37) rfl)) rfl
theorem w_2097 : Cond.instanceMethod yX13_leftIn ∈ tblG := tgm (in_t9 _ (List.mem_of_getElem? (i := 39) rfl)) rfl
theorem w_2098 : Cond.code yX13_leftIn cX13_leftIn 5 (some .int) ∈ tblG := tgm (in_t9 _ (List.mem_of_getElem? (i := 40) rfl)) rfl
theorem w_2099 : Cond.methodLink "HandKnotLaw" 78 yX13_loose ∈ tblG := tgm (in_t9 _ (List.mem_of_getElem? (i := 41) rfl)) rfl
theorem w_2100 : Cond.instanceMethod yX13_loose ∈ tblG := tgm (in_t9 _ (List.mem_of_getElem? (i := 42) rfl)) rfl
theorem w_2101 : Cond.selects RX13 yX13_loose yX13_loose ∈ tblG := tgm (in_t9 _ (List.mem_of_getElem? (i := 43) rfl)) rfl
theorem w_2102 : Cond.code yX13_loose cX13_loose 1 (some .int) ∈ tblG := tgm (in_t9 _ (List.mem_of_getElem? (i := 44) rfl)) rfl
theorem w_2103 : Cond.methodLink "HandKnotLaw" 82 yX13_may ∈ tblG := tgm (in_t9 _ (List.mem_of_getElem? (i := 45) rfl)) rfl
theorem w_2104 : Cond.instanceMethod yX13_may ∈ tblG := tgm (in_t9 _ (List.mem_of_getElem? (i := 46) rfl)) rfl
theorem w_2105 : Cond.selects RX13 yX13_may yX13_may ∈ tblG := tgm (in_t9 _ (List.mem_of_getElem? (i := 47) rfl)) rfl
theorem w_2106 : Cond.code yX13_may cX13_may 2 (some .int) ∈ tblG := tgm (in_t9 _ (List.mem_of_getElem? (i := 48) rfl)) rfl
theorem w_2107 : Cond.methodLink RX13 397 yX13_isMove ∈ tblG := tgm (in_t9 _ (List.mem_of_getElem? (i := 49) rfl)) rfl
theorem w_2109 : Cond.instanceMethod yX13_isMove ∈ tblG := tgm (in_t9 _ (List.mem_of_getElem? (i := 51) rfl)) rfl
theorem w_2110 : Cond.code yX13_isMove cX13_isMove 5 (some .boolean) ∈ tblG := tgm (in_t9 _ (List.mem_of_getElem? (i := 52) rfl)) rfl
theorem w_2111 : Cond.methodLink RX13 371 yX13_kindOf ∈ tblG := tgm (in_t9 _ (List.mem_of_getElem? (i := 53) rfl)) rfl
theorem w_2112 : Cond.static yX13_kindOf ∈ tblG := tgm (in_t9 _ (List.mem_of_getElem? (i := 54) rfl)) rfl
theorem w_2113 : Cond.code yX13_kindOf cX13_kindOf 1 (some .int) ∈ tblG := tgm (in_t9 _ (List.mem_of_getElem? (i := 55) rfl)) rfl
theorem w_2114 : Cond.methodLink RX13 403 yX13_mayMove ∈ tblG := tgm (in_t9 _ (List.mem_of_getElem? (i := 56) rfl)) rfl
theorem w_2116 : Cond.instanceMethod yX13_mayMove ∈ tblG := tgm (in_t9 _ (List.mem_of_getElem? (i := 58) rfl)) rfl
theorem w_2117 : Cond.code yX13_mayMove cX13_mayMove 3 (some .boolean) ∈ tblG := tgm (in_t9 _ (List.mem_of_getElem? (i := 59) rfl)) rfl
theorem w_2118 : Cond.methodLink RX13 380 yX13_can ∈ tblG := tgm (in_t9 _ (List.mem_of_getElem? (i := 60) rfl)) rfl
theorem w_2120 : Cond.instanceMethod yX13_can ∈ tblG := tgm (in_t9 _ (List.mem_of_getElem? (i := 62) rfl)) rfl
theorem w_2121 : Cond.code yX13_can cX13_can 5 (some .boolean) ∈ tblG := tgm (in_t9 _ (List.mem_of_getElem? (i := 63) rfl)) rfl
theorem w_2122 : Cond.methodLink RX13 374 yX13_areBeside ∈ tblG := tgm (in_t9 _ (List.mem_of_getElem? (i := 64) rfl)) rfl
theorem w_2124 : Cond.instanceMethod yX13_areBeside ∈ tblG := tgm (in_t9 _ (List.mem_of_getElem? (i := 66) rfl)) rfl
theorem w_2125 : Cond.code yX13_areBeside cX13_areBeside 5 (some .boolean) ∈ tblG := tgm (in_t9 _ (List.mem_of_getElem? (i := 67) rfl)) rfl
theorem w_2126 : Cond.methodLink RX13 383 yX13_goerOf ∈ tblG := tgm (in_t9 _ (List.mem_of_getElem? (i := 68) rfl)) rfl
theorem w_2128 : Cond.instanceMethod yX13_goerOf ∈ tblG := tgm (in_t9 _ (List.mem_of_getElem? (i := 70) rfl)) rfl
theorem w_2129 : Cond.code yX13_goerOf cX13_goerOf 7 (some .int) ∈ tblG := tgm (in_t9 _ (List.mem_of_getElem? (i := 71) rfl)) rfl
theorem w_2130 : Cond.methodLink "HandKnotLaw" 86 yX13_goer ∈ tblG := tgm (in_t9 _ (List.mem_of_getElem? (i := 72) rfl)) rfl
theorem w_2131 : Cond.instanceMethod yX13_goer ∈ tblG := tgm (in_t9 _ (List.mem_of_getElem? (i := 73) rfl)) rfl
theorem w_2132 : Cond.selects RX13 yX13_goer yX13_goer ∈ tblG := tgm (in_t9 _ (List.mem_of_getElem? (i := 74) rfl)) rfl
theorem w_2133 : Cond.code yX13_goer cX13_goer 2 (some .int) ∈ tblG := tgm (in_t9 _ (List.mem_of_getElem? (i := 75) rfl)) rfl
theorem w_2134 : Cond.methodLink "HandKnotLaw" 90 yX13_moves ∈ tblG := tgm (in_t9 _ (List.mem_of_getElem? (i := 76) rfl)) rfl
theorem w_2135 : Cond.instanceMethod yX13_moves ∈ tblG := tgm (in_t9 _ (List.mem_of_getElem? (i := 77) rfl)) rfl
theorem w_2136 : Cond.selects RX13 yX13_moves yX13_moves ∈ tblG := tgm (in_t9 _ (List.mem_of_getElem? (i := 78) rfl)) rfl
theorem w_2137 : Cond.code yX13_moves cX13_moves 3 (some .int) ∈ tblG := tgm (in_t9 _ (List.mem_of_getElem? (i := 79) rfl)) rfl
theorem w_2138 : Cond.methodLink RX13 446 yX13_nextMay ∈ tblG := tgm (in_t9 _ (List.mem_of_getElem? (i := 80) rfl)) rfl
theorem w_2140 : Cond.instanceMethod yX13_nextMay ∈ tblG := tgm (in_t9 _ (List.mem_of_getElem? (i := 82) rfl)) rfl
theorem w_2141 : Cond.code yX13_nextMay cX13_nextMay 3 (some .int) ∈ tblG := tgm (in_t9 _ (List.mem_of_getElem? (i := 83) rfl)) rfl
theorem w_2142 : Cond.methodLink RX13 400 yX13_nextMove ∈ tblG := tgm (in_t9 _ (List.mem_of_getElem? (i := 84) rfl)) rfl
theorem w_2144 : Cond.instanceMethod yX13_nextMove ∈ tblG := tgm (in_t9 _ (List.mem_of_getElem? (i := 86) rfl)) rfl
theorem w_2145 : Cond.code yX13_nextMove cX13_nextMove 3 (some .int) ∈ tblG := tgm (in_t9 _ (List.mem_of_getElem? (i := 87) rfl)) rfl
theorem w_2146 : Cond.methodLink "HandKnotLaw" 94 yX13_moveAt ∈ tblG := tgm (in_t9 _ (List.mem_of_getElem? (i := 88) rfl)) rfl
theorem w_2147 : Cond.instanceMethod yX13_moveAt ∈ tblG := tgm (in_t9 _ (List.mem_of_getElem? (i := 89) rfl)) rfl
theorem w_2148 : Cond.selects RX13 yX13_moveAt yX13_moveAt ∈ tblG := tgm (in_t9 _ (List.mem_of_getElem? (i := 90) rfl)) rfl
theorem w_2149 : Cond.code yX13_moveAt cX13_moveAt 4 (some .int) ∈ tblG := tgm (in_t9 _ (List.mem_of_getElem? (i := 91) rfl)) rfl
theorem w_2150 : Cond.methodLink "HandKnotLaw" 98 yX13_fewest ∈ tblG := tgm (in_t9 _ (List.mem_of_getElem? (i := 92) rfl)) rfl
theorem w_2151 : Cond.instanceMethod yX13_fewest ∈ tblG := tgm (in_t9 _ (List.mem_of_getElem? (i := 93) rfl)) rfl
theorem w_2152 : Cond.selects RX13 yX13_fewest yX13_fewest ∈ tblG := tgm (in_t9 _ (List.mem_of_getElem? (i := 94) rfl)) rfl
theorem w_2153 : Cond.code yX13_fewest cX13_fewest 3 (some .int) ∈ tblG := tgm (in_t9 _ (List.mem_of_getElem? (i := 95) rfl)) rfl
theorem w_2154 : Cond.methodLink RX13 466 yX13_fewestFrom ∈ tblG := tgm (in_t9 _ (List.mem_of_getElem? (i := 96) rfl)) rfl
theorem w_2156 : Cond.instanceMethod yX13_fewestFrom ∈ tblG := tgm (in_t9 _ (List.mem_of_getElem? (i := 98) rfl)) rfl
theorem w_2157 : Cond.code yX13_fewestFrom cX13_fewestFrom 8 (some .int) ∈ tblG := tgm (in_t9 _ (List.mem_of_getElem? (i := 99) rfl)) rfl
theorem w_2158 : Cond.methodLink RX13 456 yX13_comes ∈ tblG := tgm (in_t9 _ (List.mem_of_getElem? (i := 100) rfl)) rfl
theorem w_2160 : Cond.instanceMethod yX13_comes ∈ tblG := tgm (in_t9 _ (List.mem_of_getElem? (i := 102) rfl)) rfl
theorem w_2161 : Cond.code yX13_comes cX13_comes 6 (some .boolean) ∈ tblG := tgm (in_t9 _ (List.mem_of_getElem? (i := 103) rfl)) rfl
theorem w_2162 : Cond.constantLong RX13 449 (1152921504606846976 : Int64) ∈ tblG := tgm (in_t9 _ (List.mem_of_getElem? (i := 104) rfl)) rfl
theorem w_2163 : Cond.constantLong RX13 451 (-7046029254386353131 : Int64) ∈ tblG := tgm (in_t9 _ (List.mem_of_getElem? (i := 105) rfl)) rfl
theorem w_2164 : Cond.methodLink RX13 460 yX13_goesOnFrom ∈ tblG := tgm (in_t9 _ (List.mem_of_getElem? (i := 106) rfl)) rfl
theorem w_2166 : Cond.instanceMethod yX13_goesOnFrom ∈ tblG := tgm (in_t9 _ (List.mem_of_getElem? (i := 108) rfl)) rfl
theorem w_2167 : Cond.code yX13_goesOnFrom cX13_goesOnFrom 4 (some .boolean) ∈ tblG := tgm (in_t9 _ (List.mem_of_getElem? (i := 109) rfl)) rfl
theorem w_2168 : Cond.methodLink RX13 463 yX13_behind ∈ tblG := tgm (in_t9 _ (List.mem_of_getElem? (i := 110) rfl)) rfl
theorem w_2170 : Cond.instanceMethod yX13_behind ∈ tblG := tgm (in_t9 _ (List.mem_of_getElem? (i := 112) rfl)) rfl
theorem w_2171 : Cond.code yX13_behind cX13_behind 7 (some .long) ∈ tblG := tgm (in_t9 _ (List.mem_of_getElem? (i := 113) rfl)) rfl
theorem w_2172 : Cond.methodLink RX13 386 yX13_without ∈ tblG := tgm (in_t9 _ (List.mem_of_getElem? (i := 114) rfl)) rfl
theorem w_2174 : Cond.instanceMethod yX13_without ∈ tblG := tgm (in_t9 _ (List.mem_of_getElem? (i := 116) rfl)) rfl
theorem w_2175 : Cond.code yX13_without cX13_without 4 (some .long) ∈ tblG := tgm (in_t9 _ (List.mem_of_getElem? (i := 117) rfl)) rfl
theorem w_2176 : Cond.methodLink RX13 394 yX13_with ∈ tblG := tgm (in_t9 _ (List.mem_of_getElem? (i := 118) rfl)) rfl
theorem w_2177 : Cond.static yX13_with ∈ tblG := tgm (in_t9 _ (List.mem_of_getElem? (i := 119) rfl)) rfl
theorem w_2178 : Cond.code yX13_with cX13_with 4 (some .long) ∈ tblG := tgm (in_t9 _ (List.mem_of_getElem? (i := 120) rfl)) rfl
theorem w_2179 : Cond.constantLong RX13 344 (-1 : Int64) ∈ tblG := tgm (in_t9 _ (List.mem_of_getElem? (i := 121) rfl)) rfl
theorem w_2180 : Cond.methodLink RX13 390 yX13_changed ∈ tblG := tgm (in_t9 _ (List.mem_of_getElem? (i := 122) rfl)) rfl
theorem w_2182 : Cond.instanceMethod yX13_changed ∈ tblG := tgm (in_t9 _ (List.mem_of_getElem? (i := 124) rfl)) rfl
theorem w_2183 : Cond.code yX13_changed cX13_changed 5 (some .long) ∈ tblG := tgm (in_t9 _ (List.mem_of_getElem? (i := 125) rfl)) rfl
theorem w_2184 : Cond.methodLink "HandKnotLaw" 102 yX13_next ∈ tblG := tgm (in_t9 _ (List.mem_of_getElem? (i := 126) rfl)) rfl
theorem w_2185 : Cond.instanceMethod yX13_next ∈ tblG := tgm (in_t9 _ (List.mem_of_getElem? (i := 127) rfl)) rfl
theorem w_2186 : Cond.selects RX13 yX13_next yX13_next ∈ tblG := tgm (in_t9 _ (List.mem_of_getElem? (i := 128) rfl)) rfl
theorem w_2187 : Cond.code yX13_next cX13_next 4 (some .int) ∈ tblG := tgm (in_t9 _ (List.mem_of_getElem? (i := 129) rfl)) rfl
theorem w_2188 : Cond.methodLink "HandKnotLaw" 106 yX13_caller ∈ tblG := tgm (in_t9 _ (List.mem_of_getElem? (i := 130) rfl)) rfl
theorem w_2189 : Cond.instanceMethod yX13_caller ∈ tblG := tgm (in_t9 _ (List.mem_of_getElem? (i := 131) rfl)) rfl
theorem w_2190 : Cond.selects RX13 yX13_caller yX13_caller ∈ tblG := tgm (in_t9 _ (List.mem_of_getElem? (i := 132) rfl)) rfl
theorem w_2191 : Cond.code yX13_caller cX13_caller 1 (some .int) ∈ tblG := tgm (in_t9 _ (List.mem_of_getElem? (i := 133) rfl)) rfl
theorem w_2192 : Cond.methodLink RX13 472 yX13_callerNow ∈ tblG := tgm (in_t9 _ (List.mem_of_getElem? (i := 134) rfl)) rfl
theorem w_2194 : Cond.instanceMethod yX13_callerNow ∈ tblG := tgm (in_t9 _ (List.mem_of_getElem? (i := 136) rfl)) rfl
theorem w_2195 : Cond.code yX13_callerNow cX13_callerNow 5 (some .int) ∈ tblG := tgm (in_t9 _ (List.mem_of_getElem? (i := 137) rfl)) rfl
theorem w_2196 : Cond.methodLink RX13 469 yX13_leastBehind ∈ tblG := tgm (in_t9 _ (List.mem_of_getElem? (i := 138) rfl)) rfl
theorem w_2198 : Cond.instanceMethod yX13_leastBehind ∈ tblG := tgm (in_t9 _ (List.mem_of_getElem? (i := 140) rfl)) rfl
theorem w_2199 : Cond.code yX13_leastBehind cX13_leastBehind 6 (some .int) ∈ tblG := tgm (in_t9 _ (List.mem_of_getElem? (i := 141) rfl)) rfl
theorem w_2200 : Cond.methodLink "HandKnotLaw" 110 yX13_hang ∈ tblG := tgm (in_t9 _ (List.mem_of_getElem? (i := 142) rfl)) rfl
theorem w_2201 : Cond.instanceMethod yX13_hang ∈ tblG := tgm (in_t9 _ (List.mem_of_getElem? (i := 143) rfl)) rfl
theorem w_2202 : Cond.selects RX13 yX13_hang yX13_hang ∈ tblG := tgm (in_t9 _ (List.mem_of_getElem? (i := 144) rfl)) rfl
theorem w_2203 : Cond.code yX13_hang cX13_hang 3 (some .int) ∈ tblG := tgm (in_t9 _ (List.mem_of_getElem? (i := 145) rfl)) rfl
theorem w_2204 : Cond.methodLink RX13 475 yX13_hangNow ∈ tblG := tgm (in_t9 _ (List.mem_of_getElem? (i := 146) rfl)) rfl
theorem w_2206 : Cond.instanceMethod yX13_hangNow ∈ tblG := tgm (in_t9 _ (List.mem_of_getElem? (i := 148) rfl)) rfl
theorem w_2207 : Cond.code yX13_hangNow cX13_hangNow 7 (some .int) ∈ tblG := tgm (in_t9 _ (List.mem_of_getElem? (i := 149) rfl)) rfl
theorem w_2208 : Cond.methodLink "HandKnotLaw" 114 yX13_colours ∈ tblG := tgm (in_t9 _ (List.mem_of_getElem? (i := 150) rfl)) rfl
theorem w_2209 : Cond.instanceMethod yX13_colours ∈ tblG := tgm (in_t9 _ (List.mem_of_getElem? (i := 151) rfl)) rfl
theorem w_2210 : Cond.selects RX13 yX13_colours yX13_colours ∈ tblG := tgm (in_t9 _ (List.mem_of_getElem? (i := 152) rfl)) rfl
theorem w_2211 : Cond.code yX13_colours cX13_colours 2 (some .int) ∈ tblG := tgm (in_t9 _ (List.mem_of_getElem? (i := 153) rfl)) rfl
theorem w_2212 : Cond.methodLink RX13 495 yX13_coloursNow ∈ tblG := tgm (in_t9 _ (List.mem_of_getElem? (i := 154) rfl)) rfl
theorem w_2214 : Cond.instanceMethod yX13_coloursNow ∈ tblG := tgm (in_t9 _ (List.mem_of_getElem? (i := 156) rfl)) rfl
theorem w_2215 : Cond.code yX13_coloursNow cX13_coloursNow 9 (some .int) ∈ tblG := tgm (in_t9 _ (List.mem_of_getElem? (i := 157) rfl)) rfl
theorem w_2216 : Cond.methodLink RX13 485 yX13_laysArcs ∈ tblG := tgm (in_t9 _ (List.mem_of_getElem? (i := 158) rfl)) rfl
theorem w_2218 : Cond.instanceMethod yX13_laysArcs ∈ tblG := tgm (in_t9 _ (List.mem_of_getElem? (i := 160) rfl)) rfl
theorem w_2219 : Cond.code yX13_laysArcs cX13_laysArcs 7 none ∈ tblG := tgm (in_t9 _ (List.mem_of_getElem? (i := 161) rfl)) rfl
theorem w_2220 : Cond.methodLink RX13 481 yX13_laysArcsOf ∈ tblG := tgm (in_t9 _ (List.mem_of_getElem? (i := 162) rfl)) rfl
theorem w_2222 : Cond.instanceMethod yX13_laysArcsOf ∈ tblG := tgm (in_t9 _ (List.mem_of_getElem? (i := 164) rfl)) rfl
theorem w_2223 : Cond.code yX13_laysArcsOf cX13_laysArcsOf 8 none ∈ tblG := tgm (in_t9 _ (List.mem_of_getElem? (i := 165) rfl)) rfl
theorem w_2224 : Cond.methodLink RX13 488 yX13_adds ∈ tblG := tgm (in_t9 _ (List.mem_of_getElem? (i := 166) rfl)) rfl
theorem w_2226 : Cond.instanceMethod yX13_adds ∈ tblG := tgm (in_t9 _ (List.mem_of_getElem? (i := 168) rfl)) rfl
theorem w_2227 : Cond.code yX13_adds cX13_adds 5 none ∈ tblG := tgm (in_t9 _ (List.mem_of_getElem? (i := 169) rfl)) rfl
theorem w_2228 : Cond.methodLink RX13 492 yX13_turned ∈ tblG := tgm (in_t9 _ (List.mem_of_getElem? (i := 170) rfl)) rfl
theorem w_2229 : Cond.static yX13_turned ∈ tblG := tgm (in_t9 _ (List.mem_of_getElem? (i := 171) rfl)) rfl
theorem w_2230 : Cond.code yX13_turned cX13_turned 3 (some .int) ∈ tblG := tgm (in_t9 _ (List.mem_of_getElem? (i := 172) rfl)) rfl
theorem w_2231 : Cond.methodLink "HandKnotLaw" 118 yX13_cannot ∈ tblG := tgm (in_t9 _ (List.mem_of_getElem? (i := 173) rfl)) rfl
theorem w_2232 : Cond.instanceMethod yX13_cannot ∈ tblG := tgm (in_t9 _ (List.mem_of_getElem? (i := 174) rfl)) rfl
theorem w_2233 : Cond.selects RX13 yX13_cannot yX13_cannot ∈ tblG := tgm (in_t9 _ (List.mem_of_getElem? (i := 175) rfl)) rfl
theorem w_2234 : Cond.code yX13_cannot cX13_cannot 4 (some .int) ∈ tblG := tgm (in_t9 _ (List.mem_of_getElem? (i := 176) rfl)) rfl
theorem w_2235 : Cond.methodLink "HandKnotLaw" 122 yX13_part ∈ tblG := tgm (in_t9 _ (List.mem_of_getElem? (i := 177) rfl)) rfl
theorem w_2236 : Cond.instanceMethod yX13_part ∈ tblG := tgm (in_t9 _ (List.mem_of_getElem? (i := 178) rfl)) rfl
theorem w_2237 : Cond.selects RX13 yX13_part yX13_part ∈ tblG := tgm (in_t9 _ (List.mem_of_getElem? (i := 179) rfl)) rfl
theorem w_2238 : Cond.code yX13_part cX13_part 9 (some .int) ∈ tblG := tgm (in_t9 _ (List.mem_of_getElem? (i := 180) rfl)) rfl
theorem w_2239 : Cond.methodLink RX13 498 yX13_partedFrom ∈ tblG := tgm (in_t9 _ (List.mem_of_getElem? (i := 181) rfl)) rfl
theorem w_2241 : Cond.instanceMethod yX13_partedFrom ∈ tblG := tgm (in_t9 _ (List.mem_of_getElem? (i := 183) rfl)) rfl
theorem w_2242 : Cond.code yX13_partedFrom cX13_partedFrom 7 (some .long) ∈ tblG := tgm (in_t9 _ (List.mem_of_getElem? (i := 184) rfl)) rfl
theorem w_2243 : Cond.methodLink "HandKnotLaw" 126 yX13_lift ∈ tblG := tgm (in_t9 _ (List.mem_of_getElem? (i := 185) rfl)) rfl
theorem w_2244 : Cond.instanceMethod yX13_lift ∈ tblG := tgm (in_t9 _ (List.mem_of_getElem? (i := 186) rfl)) rfl
theorem w_2245 : Cond.selects RX13 yX13_lift yX13_lift ∈ tblG := tgm (in_t9 _ (List.mem_of_getElem? (i := 187) rfl)) rfl
theorem w_2246 : Cond.code yX13_lift cX13_lift 9 (some .int) ∈ tblG := tgm (in_t9 _ (List.mem_of_getElem? (i := 188) rfl)) rfl
theorem w_2247 : Cond.methodLink RX13 501 yX13_liftedFrom ∈ tblG := tgm (in_t9 _ (List.mem_of_getElem? (i := 189) rfl)) rfl
theorem w_2249 : Cond.instanceMethod yX13_liftedFrom ∈ tblG := tgm (in_t9 _ (List.mem_of_getElem? (i := 191) rfl)) rfl
theorem w_2250 : Cond.code yX13_liftedFrom cX13_liftedFrom 4 (some .long) ∈ tblG := tgm (in_t9 _ (List.mem_of_getElem? (i := 192) rfl)) rfl
theorem w_2251 : Cond.methodLink "HandKnotLaw" 186 yX13_lifts ∈ tblG := tgm (in_t9 _ (List.mem_of_getElem? (i := 193) rfl)) rfl
theorem w_2252 : Cond.instanceMethod yX13_lifts ∈ tblG := tgm (in_t9 _ (List.mem_of_getElem? (i := 194) rfl)) rfl
theorem w_2253 : Cond.selects RX13 yX13_lifts yX13_lifts ∈ tblG := tgm (in_t9 _ (List.mem_of_getElem? (i := 195) rfl)) rfl
theorem w_2254 : Cond.code yX13_lifts cX13_lifts 2 (some .int) ∈ tblG := tgm (in_t9 _ (List.mem_of_getElem? (i := 196) rfl)) rfl
theorem w_2255 : Cond.methodLink RX13 504 yX13_isCrossing ∈ tblG := tgm (in_t9 _ (List.mem_of_getElem? (i := 197) rfl)) rfl
theorem w_2257 : Cond.instanceMethod yX13_isCrossing ∈ tblG := tgm (in_t9 _ (List.mem_of_getElem? (i := 199) rfl)) rfl
theorem w_2258 : Cond.code yX13_isCrossing cX13_isCrossing 2 (some .boolean) ∈ tblG := tgm (in_t9 _ (List.mem_of_getElem? (i := 200) rfl)) rfl
theorem w_2259 : Cond.methodLink RX13 507 yX13_keeps ∈ tblG := tgm (in_t9 _ (List.mem_of_getElem? (i := 201) rfl)) rfl
theorem w_2261 : Cond.instanceMethod yX13_keeps ∈ tblG := tgm (in_t9 _ (List.mem_of_getElem? (i := 203) rfl)) rfl
theorem w_2262 : Cond.code yX13_keeps cX13_keeps 2 none ∈ tblG := tgm (in_t9 _ (List.mem_of_getElem? (i := 204) rfl)) rfl
theorem w_2263 : Cond.methodLink "HandKnotLaw" 130 yX13_twist ∈ tblG := tgm (in_t9 _ (List.mem_of_getElem? (i := 205) rfl)) rfl
theorem w_2264 : Cond.instanceMethod yX13_twist ∈ tblG := tgm (in_t9 _ (List.mem_of_getElem? (i := 206) rfl)) rfl
theorem w_2265 : Cond.selects RX13 yX13_twist yX13_twist ∈ tblG := tgm (in_t9 _ (List.mem_of_getElem? (i := 207) rfl)) rfl
theorem w_2266 : Cond.code yX13_twist cX13_twist 4 (some .int) ∈ tblG := tgm (in_t9 _ (List.mem_of_getElem? (i := 208) rfl)) rfl
theorem w_2267 : Cond.methodLink "HandKnotLaw" 134 yX13_arcs ∈ tblG := tgm (in_t9 _ (List.mem_of_getElem? (i := 209) rfl)) rfl
theorem w_2268 : Cond.instanceMethod yX13_arcs ∈ tblG := tgm (in_t9 _ (List.mem_of_getElem? (i := 210) rfl)) rfl
theorem w_2269 : Cond.selects RX13 yX13_arcs yX13_arcs ∈ tblG := tgm (in_t9 _ (List.mem_of_getElem? (i := 211) rfl)) rfl
theorem w_2270 : Cond.code yX13_arcs cX13_arcs 1 (some .int) ∈ tblG := tgm (in_t9 _ (List.mem_of_getElem? (i := 212) rfl)) rfl
theorem w_2271 : Cond.methodLink "HandKnotLaw" 138 yX13_reached ∈ tblG := tgm (in_t9 _ (List.mem_of_getElem? (i := 213) rfl)) rfl
theorem w_2272 : Cond.instanceMethod yX13_reached ∈ tblG := tgm (in_t9 _ (List.mem_of_getElem? (i := 214) rfl)) rfl
theorem w_2273 : Cond.selects RX13 yX13_reached yX13_reached ∈ tblG := tgm (in_t9 _ (List.mem_of_getElem? (i := 215) rfl)) rfl
theorem w_2274 : Cond.code yX13_reached cX13_reached 2 (some .int) ∈ tblG := tgm (in_t9 _ (List.mem_of_getElem? (i := 216) rfl)) rfl
theorem w_2275 : Cond.methodLink RX13 510 yX13_comesAll ∈ tblG := tgm (in_t9 _ (List.mem_of_getElem? (i := 217) rfl)) rfl
theorem w_2277 : Cond.instanceMethod yX13_comesAll ∈ tblG := tgm (in_t9 _ (List.mem_of_getElem? (i := 219) rfl)) rfl
theorem w_2278 : Cond.code yX13_comesAll cX13_comesAll 6 (some .boolean) ∈ tblG := tgm (in_t9 _ (List.mem_of_getElem? (i := 220) rfl)) rfl
theorem w_2279 : Cond.methodLink "HandKnotLaw" 142 yX13_few ∈ tblG := tgm (in_t9 _ (List.mem_of_getElem? (i := 221) rfl)) rfl
theorem w_2280 : Cond.instanceMethod yX13_few ∈ tblG := tgm (in_t9 _ (List.mem_of_getElem? (i := 222) rfl)) rfl
theorem w_2281 : Cond.selects RX13 yX13_few yX13_few ∈ tblG := tgm (in_t9 _ (List.mem_of_getElem? (i := 223) rfl)) rfl
theorem w_2282 : Cond.code yX13_few cX13_few 4 (some .int) ∈ tblG := tgm (in_t9 _ (List.mem_of_getElem? (i := 224) rfl)) rfl
theorem w_2283 : Cond.methodLink "HandKnotLaw" 146 yX13_sees ∈ tblG := tgm (in_t9 _ (List.mem_of_getElem? (i := 225) rfl)) rfl
theorem w_2284 : Cond.instanceMethod yX13_sees ∈ tblG := tgm (in_t9 _ (List.mem_of_getElem? (i := 226) rfl)) rfl
theorem w_2285 : Cond.selects RX13 yX13_sees yX13_sees ∈ tblG := tgm (in_t9 _ (List.mem_of_getElem? (i := 227) rfl)) rfl
theorem w_2286 : Cond.code yX13_sees cX13_sees 2 (some .int) ∈ tblG := tgm (in_t9 _ (List.mem_of_getElem? (i := 228) rfl)) rfl
theorem w_2287 : Cond.methodLink RX13 513 yX13_seesIn ∈ tblG := tgm (in_t9 _ (List.mem_of_getElem? (i := 229) rfl)) rfl
theorem w_2289 : Cond.instanceMethod yX13_seesIn ∈ tblG := tgm (in_t9 _ (List.mem_of_getElem? (i := 231) rfl)) rfl
theorem w_2290 : Cond.code yX13_seesIn cX13_seesIn 7 (some .int) ∈ tblG := tgm (in_t9 _ (List.mem_of_getElem? (i := 232) rfl)) rfl
theorem w_2291 : Cond.methodLink "HandKnotLaw" 150 yX13_own ∈ tblG := tgm (in_t9 _ (List.mem_of_getElem? (i := 233) rfl)) rfl
theorem w_2292 : Cond.instanceMethod yX13_own ∈ tblG := tgm (in_t9 _ (List.mem_of_getElem? (i := 234) rfl)) rfl
theorem w_2293 : Cond.selects RX13 yX13_own yX13_own ∈ tblG := tgm (in_t9 _ (List.mem_of_getElem? (i := 235) rfl)) rfl
theorem w_2294 : Cond.code yX13_own cX13_own 2 (some .int) ∈ tblG := tgm (in_t9 _ (List.mem_of_getElem? (i := 236) rfl)) rfl
theorem w_2295 : Cond.methodLink RX13 519 yX13_ownIn ∈ tblG := tgm (in_t9 _ (List.mem_of_getElem? (i := 237) rfl)) rfl
theorem w_2297 : Cond.instanceMethod yX13_ownIn ∈ tblG := tgm (in_t9 _ (List.mem_of_getElem? (i := 239) rfl)) rfl
theorem w_2298 : Cond.code yX13_ownIn cX13_ownIn 9 (some .int) ∈ tblG := tgm (in_t10 _ (List.mem_of_getElem? (i := 0) rfl)) rfl
theorem w_2299 : Cond.methodLink RX13 516 yX13_crossingsOf ∈ tblG := tgm (in_t10 _ (List.mem_of_getElem? (i := 1) rfl)) rfl
theorem w_2300 : Cond.static yX13_crossingsOf ∈ tblG := tgm (in_t10 _ (List.mem_of_getElem? (i := 2) rfl)) rfl
theorem w_2301 : Cond.code yX13_crossingsOf cX13_crossingsOf 1 (some .int) ∈ tblG := tgm (in_t10 _ (List.mem_of_getElem? (i := 3) rfl)) rfl
theorem w_2302 : Cond.methodLink "HandKnotLaw" 154 yX13_rounds ∈ tblG := tgm (in_t10 _ (List.mem_of_getElem? (i := 4) rfl)) rfl
theorem w_2303 : Cond.instanceMethod yX13_rounds ∈ tblG := tgm (in_t10 _ (List.mem_of_getElem? (i := 5) rfl)) rfl
theorem w_2304 : Cond.selects RX13 yX13_rounds yX13_rounds ∈ tblG := tgm (in_t10 _ (List.mem_of_getElem? (i := 6) rfl)) rfl
theorem w_2305 : Cond.code yX13_rounds cX13_rounds 7 (some .int) ∈ tblG := tgm (in_t10 _ (List.mem_of_getElem? (i := 7) rfl)) rfl
theorem w_2306 : Cond.methodLink "HandKnotLaw" 159 yX13_tries ∈ tblG := tgm (in_t10 _ (List.mem_of_getElem? (i := 8) rfl)) rfl
theorem w_2307 : Cond.instanceMethod yX13_tries ∈ tblG := tgm (in_t10 _ (List.mem_of_getElem? (i := 9) rfl)) rfl
theorem w_2308 : Cond.selects RX13 yX13_tries yX13_tries ∈ tblG := tgm (in_t10 _ (List.mem_of_getElem? (i := 10) rfl)) rfl
theorem w_2309 : Cond.code yX13_tries cX13_tries 9 (some .int) ∈ tblG := tgm (in_t10 _ (List.mem_of_getElem? (i := 11) rfl)) rfl
theorem w_2310 : Cond.constant RX13 531 (65536 : Int32) ∈ tblG := tgm (in_t10 _ (List.mem_of_getElem? (i := 12) rfl)) rfl
theorem w_2311 : Cond.methodLink RX13 532 yX13_lotFrom ∈ tblG := tgm (in_t10 _ (List.mem_of_getElem? (i := 13) rfl)) rfl
theorem w_2313 : Cond.instanceMethod yX13_lotFrom ∈ tblG := tgm (in_t10 _ (List.mem_of_getElem? (i := 15) rfl)) rfl
theorem w_2314 : Cond.code yX13_lotFrom cX13_lotFrom 6 (some .long) ∈ tblG := tgm (in_t10 _ (List.mem_of_getElem? (i := 16) rfl)) rfl
theorem w_2315 : Cond.constantLong RX13 522 (75 : Int64) ∈ tblG := tgm (in_t10 _ (List.mem_of_getElem? (i := 17) rfl)) rfl
theorem w_2316 : Cond.constantLong RX13 527 (74 : Int64) ∈ tblG := tgm (in_t10 _ (List.mem_of_getElem? (i := 18) rfl)) rfl
theorem w_2317 : Cond.constantLong RX13 529 (65537 : Int64) ∈ tblG := tgm (in_t10 _ (List.mem_of_getElem? (i := 19) rfl)) rfl
theorem w_2318 : Cond.methodLink "HandKnotLaw" 164 yX13_ways ∈ tblG := tgm (in_t10 _ (List.mem_of_getElem? (i := 20) rfl)) rfl
theorem w_2319 : Cond.instanceMethod yX13_ways ∈ tblG := tgm (in_t10 _ (List.mem_of_getElem? (i := 21) rfl)) rfl
theorem w_2320 : Cond.selects RX13 yX13_ways yX13_ways ∈ tblG := tgm (in_t10 _ (List.mem_of_getElem? (i := 22) rfl)) rfl
theorem w_2321 : Cond.code yX13_ways cX13_ways 4 (some .long) ∈ tblG := tgm (in_t10 _ (List.mem_of_getElem? (i := 23) rfl)) rfl
theorem w_2322 : Cond.methodLink RX13 542 yX13_laysWays ∈ tblG := tgm (in_t10 _ (List.mem_of_getElem? (i := 24) rfl)) rfl
theorem w_2324 : Cond.instanceMethod yX13_laysWays ∈ tblG := tgm (in_t10 _ (List.mem_of_getElem? (i := 26) rfl)) rfl
theorem w_2325 : Cond.code yX13_laysWays cX13_laysWays 9 none ∈ tblG := tgm (in_t10 _ (List.mem_of_getElem? (i := 27) rfl)) rfl
theorem w_2326 : Cond.constantLong RX13 536 (2 : Int64) ∈ tblG := tgm (in_t10 _ (List.mem_of_getElem? (i := 28) rfl)) rfl
theorem w_2327 : Cond.methodLink RX13 538 yX13_chosen ∈ tblG := tgm (in_t10 _ (List.mem_of_getElem? (i := 29) rfl)) rfl
theorem w_2328 : Cond.static yX13_chosen ∈ tblG := tgm (in_t10 _ (List.mem_of_getElem? (i := 30) rfl)) rfl
theorem w_2329 : Cond.code yX13_chosen cX13_chosen 5 (some .long) ∈ tblG := tgm (in_t10 _ (List.mem_of_getElem? (i := 31) rfl)) rfl
theorem w_2330 : Cond.methodLink RX13 545 yX13_waysNow ∈ tblG := tgm (in_t10 _ (List.mem_of_getElem? (i := 32) rfl)) rfl
theorem w_2332 : Cond.instanceMethod yX13_waysNow ∈ tblG := tgm (in_t10 _ (List.mem_of_getElem? (i := 34) rfl)) rfl
theorem w_2333 : Cond.code yX13_waysNow cX13_waysNow 3 (some .long) ∈ tblG := tgm (in_t10 _ (List.mem_of_getElem? (i := 35) rfl)) rfl
theorem w_2334 : Cond.methodLink "HandKnotLaw" 169 yX13_odds ∈ tblG := tgm (in_t10 _ (List.mem_of_getElem? (i := 36) rfl)) rfl
theorem w_2335 : Cond.instanceMethod yX13_odds ∈ tblG := tgm (in_t10 _ (List.mem_of_getElem? (i := 37) rfl)) rfl
theorem w_2336 : Cond.selects RX13 yX13_odds yX13_odds ∈ tblG := tgm (in_t10 _ (List.mem_of_getElem? (i := 38) rfl)) rfl
theorem w_2337 : Cond.code yX13_odds cX13_odds 5 (some .long) ∈ tblG := tgm (in_t10 _ (List.mem_of_getElem? (i := 39) rfl)) rfl
theorem w_2338 : Cond.methodLink RX13 548 yX13_allWays ∈ tblG := tgm (in_t10 _ (List.mem_of_getElem? (i := 40) rfl)) rfl
theorem w_2340 : Cond.instanceMethod yX13_allWays ∈ tblG := tgm (in_t10 _ (List.mem_of_getElem? (i := 42) rfl)) rfl
theorem w_2341 : Cond.code yX13_allWays cX13_allWays 5 (some .long) ∈ tblG := tgm (in_t10 _ (List.mem_of_getElem? (i := 43) rfl)) rfl
theorem w_2342 : Cond.methodLink RX13 552 yX13_told ∈ tblG := tgm (in_t10 _ (List.mem_of_getElem? (i := 44) rfl)) rfl
theorem w_2344 : Cond.instanceMethod yX13_told ∈ tblG := tgm (in_t10 _ (List.mem_of_getElem? (i := 46) rfl)) rfl
theorem w_2345 : Cond.code yX13_told cX13_told 12 (some .long) ∈ tblG := tgm (in_t10 _ (List.mem_of_getElem? (i := 47) rfl)) rfl
theorem w_2346 : Cond.methodLink "HandKnotLaw" 174 yX13_mean ∈ tblG := tgm (in_t10 _ (List.mem_of_getElem? (i := 48) rfl)) rfl
theorem w_2347 : Cond.instanceMethod yX13_mean ∈ tblG := tgm (in_t10 _ (List.mem_of_getElem? (i := 49) rfl)) rfl
theorem w_2348 : Cond.selects RX13 yX13_mean yX13_mean ∈ tblG := tgm (in_t10 _ (List.mem_of_getElem? (i := 50) rfl)) rfl
theorem w_2349 : Cond.code yX13_mean cX13_mean 7 (some .long) ∈ tblG := tgm (in_t10 _ (List.mem_of_getElem? (i := 51) rfl)) rfl
theorem w_2350 : Cond.methodLink "HandKnotLaw" 178 yX13_move ∈ tblG := tgm (in_t10 _ (List.mem_of_getElem? (i := 52) rfl)) rfl
theorem w_2351 : Cond.instanceMethod yX13_move ∈ tblG := tgm (in_t10 _ (List.mem_of_getElem? (i := 53) rfl)) rfl
theorem w_2352 : Cond.selects RX13 yX13_move yX13_move ∈ tblG := tgm (in_t10 _ (List.mem_of_getElem? (i := 54) rfl)) rfl
theorem w_2353 : Cond.code yX13_move cX13_move 2 (some .int) ∈ tblG := tgm (in_t10 _ (List.mem_of_getElem? (i := 55) rfl)) rfl
theorem w_2354 : Cond.methodLink "HandKnotLaw" 182 yX13_parts ∈ tblG := tgm (in_t10 _ (List.mem_of_getElem? (i := 56) rfl)) rfl
theorem w_2355 : Cond.instanceMethod yX13_parts ∈ tblG := tgm (in_t10 _ (List.mem_of_getElem? (i := 57) rfl)) rfl
theorem w_2356 : Cond.selects RX13 yX13_parts yX13_parts ∈ tblG := tgm (in_t10 _ (List.mem_of_getElem? (i := 58) rfl)) rfl
theorem w_2357 : Cond.code yX13_parts cX13_parts 3 (some .int) ∈ tblG := tgm (in_t10 _ (List.mem_of_getElem? (i := 59) rfl)) rfl
theorem w_2358 : Cond.methodLink "HandKnotLaw" 190 yX13_lot ∈ tblG := tgm (in_t10 _ (List.mem_of_getElem? (i := 60) rfl)) rfl
theorem w_2359 : Cond.instanceMethod yX13_lot ∈ tblG := tgm (in_t10 _ (List.mem_of_getElem? (i := 61) rfl)) rfl
theorem w_2360 : Cond.selects RX13 yX13_lot yX13_lot ∈ tblG := tgm (in_t10 _ (List.mem_of_getElem? (i := 62) rfl)) rfl
theorem w_2361 : Cond.code yX13_lot cX13_lot 4 (some .int) ∈ tblG := tgm (in_t10 _ (List.mem_of_getElem? (i := 63) rfl)) rfl
theorem w_2362 : Cond.methodLink "HandKnotLaw" 194 yX13_call ∈ tblG := tgm (in_t10 _ (List.mem_of_getElem? (i := 64) rfl)) rfl
theorem w_2363 : Cond.instanceMethod yX13_call ∈ tblG := tgm (in_t10 _ (List.mem_of_getElem? (i := 65) rfl)) rfl
theorem w_2364 : Cond.selects RX13 yX13_call yX13_call ∈ tblG := tgm (in_t10 _ (List.mem_of_getElem? (i := 66) rfl)) rfl
theorem w_2365 : Cond.code yX13_call cX13_call 2 (some .int) ∈ tblG := tgm (in_t10 _ (List.mem_of_getElem? (i := 67) rfl)) rfl
theorem w_2366 : Cond.methodLink "HandKnotLaw" 199 yX13_seed ∈ tblG := tgm (in_t10 _ (List.mem_of_getElem? (i := 68) rfl)) rfl
theorem w_2367 : Cond.instanceMethod yX13_seed ∈ tblG := tgm (in_t10 _ (List.mem_of_getElem? (i := 69) rfl)) rfl
theorem w_2368 : Cond.selects RX13 yX13_seed yX13_seed ∈ tblG := tgm (in_t10 _ (List.mem_of_getElem? (i := 70) rfl)) rfl
theorem w_2369 : Cond.code yX13_seed cX13_seed 2 (some .boolean) ∈ tblG := tgm (in_t10 _ (List.mem_of_getElem? (i := 71) rfl)) rfl
theorem w_2370 : Cond.methodLink RX13 556 yX13_denied ∈ tblG := tgm (in_t10 _ (List.mem_of_getElem? (i := 72) rfl)) rfl
theorem w_2372 : Cond.instanceMethod yX13_denied ∈ tblG := tgm (in_t10 _ (List.mem_of_getElem? (i := 74) rfl)) rfl
theorem w_2373 : Cond.code yX13_denied cX13_denied 2 (some .boolean) ∈ tblG := tgm (in_t10 _ (List.mem_of_getElem? (i := 75) rfl)) rfl
theorem w_2374 : Cond.methodLink RX13 559 yX13_granted ∈ tblG := tgm (in_t10 _ (List.mem_of_getElem? (i := 76) rfl)) rfl
theorem w_2376 : Cond.instanceMethod yX13_granted ∈ tblG := tgm (in_t10 _ (List.mem_of_getElem? (i := 78) rfl)) rfl
theorem w_2377 : Cond.code yX13_granted cX13_granted 1 (some .boolean) ∈ tblG := tgm (in_t10 _ (List.mem_of_getElem? (i := 79) rfl)) rfl
theorem w_2378 : Cond.methodLink "HandKnotLaw" 204 yX13_undo ∈ tblG := tgm (in_t10 _ (List.mem_of_getElem? (i := 80) rfl)) rfl
theorem w_2379 : Cond.instanceMethod yX13_undo ∈ tblG := tgm (in_t10 _ (List.mem_of_getElem? (i := 81) rfl)) rfl
theorem w_2380 : Cond.selects RX13 yX13_undo yX13_undo ∈ tblG := tgm (in_t10 _ (List.mem_of_getElem? (i := 82) rfl)) rfl
theorem w_2381 : Cond.code yX13_undo cX13_undo 1 (some .boolean) ∈ tblG := tgm (in_t10 _ (List.mem_of_getElem? (i := 83) rfl)) rfl
theorem w_2382 : Cond.methodLink "HandKnotLaw" 208 yX13_mark ∈ tblG := tgm (in_t10 _ (List.mem_of_getElem? (i := 84) rfl)) rfl
theorem w_2383 : Cond.instanceMethod yX13_mark ∈ tblG := tgm (in_t10 _ (List.mem_of_getElem? (i := 85) rfl)) rfl
theorem w_2384 : Cond.selects RX13 yX13_mark yX13_mark ∈ tblG := tgm (in_t10 _ (List.mem_of_getElem? (i := 86) rfl)) rfl
theorem w_2385 : Cond.code yX13_mark cX13_mark 1 (some .int) ∈ tblG := tgm (in_t10 _ (List.mem_of_getElem? (i := 87) rfl)) rfl
theorem w_2386 : Cond.methodLink "HandKnotLaw" 212 yX13_back ∈ tblG := tgm (in_t10 _ (List.mem_of_getElem? (i := 88) rfl)) rfl
theorem w_2387 : Cond.instanceMethod yX13_back ∈ tblG := tgm (in_t10 _ (List.mem_of_getElem? (i := 89) rfl)) rfl
theorem w_2388 : Cond.selects RX13 yX13_back yX13_back ∈ tblG := tgm (in_t10 _ (List.mem_of_getElem? (i := 90) rfl)) rfl
theorem w_2389 : Cond.code yX13_back cX13_back 2 (some .boolean) ∈ tblG := tgm (in_t10 _ (List.mem_of_getElem? (i := 91) rfl)) rfl
theorem w_2390 : Cond.methodLink "HandKnotLaw" 218 yX13_led ∈ tblG := tgm (in_t10 _ (List.mem_of_getElem? (i := 92) rfl)) rfl
theorem w_2391 : Cond.instanceMethod yX13_led ∈ tblG := tgm (in_t10 _ (List.mem_of_getElem? (i := 93) rfl)) rfl
theorem w_2392 : Cond.selects RX13 yX13_led yX13_led ∈ tblG := tgm (in_t10 _ (List.mem_of_getElem? (i := 94) rfl)) rfl
theorem w_2393 : Cond.code yX13_led cX13_led 4 (some .int) ∈ tblG := tgm (in_t10 _ (List.mem_of_getElem? (i := 95) rfl)) rfl
theorem w_2394 : Cond.methodLink "HandKnotLaw" 225 yX13_size ∈ tblG := tgm (in_t10 _ (List.mem_of_getElem? (i := 96) rfl)) rfl
theorem w_2395 : Cond.instanceMethod yX13_size ∈ tblG := tgm (in_t10 _ (List.mem_of_getElem? (i := 97) rfl)) rfl
theorem w_2396 : Cond.selects RX13 yX13_size yX13_size ∈ tblG := tgm (in_t10 _ (List.mem_of_getElem? (i := 98) rfl)) rfl
theorem w_2397 : Cond.code yX13_size cX13_size 2 (some .int) ∈ tblG := tgm (in_t10 _ (List.mem_of_getElem? (i := 99) rfl)) rfl
theorem w_2398 : Cond.methodLink "HandKnotLaw" 229 yX13_trouble ∈ tblG := tgm (in_t10 _ (List.mem_of_getElem? (i := 100) rfl)) rfl
theorem w_2399 : Cond.instanceMethod yX13_trouble ∈ tblG := tgm (in_t10 _ (List.mem_of_getElem? (i := 101) rfl)) rfl
theorem w_2400 : Cond.selects RX13 yX13_trouble yX13_trouble ∈ tblG := tgm (in_t10 _ (List.mem_of_getElem? (i := 102) rfl)) rfl
theorem w_2401 : Cond.code yX13_trouble cX13_trouble 1 (some .int) ∈ tblG := tgm (in_t10 _ (List.mem_of_getElem? (i := 103) rfl)) rfl
theorem w_2420 : Cond.fieldLink "java/lang/String" 9 "java/lang/String" "value" "[B" ∈ tblG := tgm (in_t10 _ (List.mem_of_getElem? (i := 122) rfl)) rfl
theorem w_2421 : Cond.fieldLink "java/lang/String" 15 "java/lang/String" "coder" "B" ∈ tblG := tgm (in_t10 _ (List.mem_of_getElem? (i := 123) rfl)) rfl
