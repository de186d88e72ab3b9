theorem w_1241 : Cond.methodLink RX2 81 yJ9_floorMod_7cf53 ∈ tblG := tg (i := 1241) (by decide +kernel) rfl
theorem w_1242 : Cond.static yJ9_floorMod_7cf53 ∈ tblG := tg (i := 1242) (by decide +kernel) rfl
theorem w_1243 : Cond.code yJ9_floorMod_7cf53 cJ9_floorMod_7cf53 3 (some .int) ∈ tblG := tg (i := 1243) (by decide +kernel) rfl
theorem w_1244 : Cond.methodLink RX2 57 yX2_rank ∈ tblG := tg (i := 1244) (by decide +kernel) rfl
theorem w_1246 : Cond.instanceMethod yX2_rank ∈ tblG := tg (i := 1246) (by decide +kernel) rfl
theorem w_1247 : Cond.code yX2_rank cX2_rank 6 (some .int) ∈ tblG := tg (i := 1247) (by decide +kernel) rfl
theorem w_1248 : Cond.methodLink RX2 84 yX2_bringsUp ∈ tblG := tg (i := 1248) (by decide +kernel) rfl
theorem w_1250 : Cond.instanceMethod yX2_bringsUp ∈ tblG := tg (i := 1250) (by decide +kernel) rfl
theorem w_1251 : Cond.code yX2_bringsUp cX2_bringsUp 6 (some .boolean) ∈ tblG := tg (i := 1251) (by decide +kernel) rfl
theorem w_1252 : Cond.methodLink RX2 88 yX2_clearColumn ∈ tblG := tg (i := 1252) (by decide +kernel) rfl
theorem w_1253 : Cond.static yX2_clearColumn ∈ tblG := tg (i := 1253) (by decide +kernel) rfl
theorem w_1254 : Cond.code yX2_clearColumn cX2_clearColumn 7 none ∈ tblG := tg (i := 1254) (by decide +kernel) rfl
theorem w_1255 : Cond.methodLink "HandKnotLaw" 115 yX11_cannot ∈ tblG := tg (i := 1255) (by decide +kernel) rfl
theorem w_1256 : Cond.instanceMethod yX11_cannot ∈ tblG := tg (i := 1256) (by decide +kernel) rfl
theorem w_1257 : Cond.selects RX11 yX11_cannot yX11_cannot ∈ tblG := tg (i := 1257) (by decide +kernel) rfl
theorem w_1258 : Cond.code yX11_cannot cX11_cannot 1 (some .int) ∈ tblG := tg (i := 1258) (by decide +kernel) rfl
theorem w_1259 : Cond.methodLink RX11 258 yX11_isProvedTight ∈ tblG := tg (i := 1259) (by decide +kernel) rfl
theorem w_1261 : Cond.instanceMethod yX11_isProvedTight ∈ tblG := tg (i := 1261) (by decide +kernel) rfl
theorem w_1262 : Cond.code yX11_isProvedTight cX11_isProvedTight 3 (some .boolean) ∈ tblG := tg (i := 1262) (by decide +kernel) rfl
theorem w_1263 : Cond.methodLink "HandKnotLaw" 119 yX11_part ∈ tblG := tg (i := 1263) (by decide +kernel) rfl
theorem w_1264 : Cond.instanceMethod yX11_part ∈ tblG := tg (i := 1264) (by decide +kernel) rfl
theorem w_1265 : Cond.selects RX11 yX11_part yX11_part ∈ tblG := tg (i := 1265) (by decide +kernel) rfl
theorem w_1266 : Cond.code yX11_part cX11_part 3 (some .int) ∈ tblG := tg (i := 1266) (by decide +kernel) rfl
theorem w_1267 : Cond.methodLink RX11 264 yX11_bestPart ∈ tblG := tg (i := 1267) (by decide +kernel) rfl
theorem w_1269 : Cond.instanceMethod yX11_bestPart ∈ tblG := tg (i := 1269) (by decide +kernel) rfl
theorem w_1270 : Cond.code yX11_bestPart cX11_bestPart 6 (some .int) ∈ tblG := tg (i := 1270) (by decide +kernel) rfl
theorem w_1271 : Cond.methodLink RX11 267 yX4_become ∈ tblG := tg (i := 1271) (by decide +kernel) rfl
theorem w_1272 : Cond.instanceMethod yX4_become ∈ tblG := tg (i := 1272) (by decide +kernel) rfl
theorem w_1273 : Cond.selects RX4 yX4_become yX4_become ∈ tblG := tg (i := 1273) (by decide +kernel) rfl
theorem w_1274 : Cond.code yX4_become cX4_become 2 none ∈ tblG := tg (i := 1274) (by decide +kernel) rfl
theorem w_1275 : Cond.methodLink RX11 270 yX4_letGo ∈ tblG := tg (i := 1275) (by decide +kernel) rfl
theorem w_1276 : Cond.instanceMethod yX4_letGo ∈ tblG := tg (i := 1276) (by decide +kernel) rfl
theorem w_1277 : Cond.selects RX4 yX4_letGo yX4_letGo ∈ tblG := tg (i := 1277) (by decide +kernel) rfl
theorem w_1278 : Cond.code yX4_letGo cX4_letGo 6 none ∈ tblG := tg (i := 1278) (by decide +kernel) rfl
theorem w_1279 : Cond.methodLink RX4 33 yX4_passAt ∈ tblG := tg (i := 1279) (by decide +kernel) rfl
theorem w_1280 : Cond.constantLong RX4 41 (-1 : Int64) ∈ tblG := tg (i := 1280) (by decide +kernel) rfl
theorem w_1281 : Cond.methodLink "HandKnotLaw" 123 yX11_lift ∈ tblG := tg (i := 1281) (by decide +kernel) rfl
theorem w_1282 : Cond.instanceMethod yX11_lift ∈ tblG := tg (i := 1282) (by decide +kernel) rfl
theorem w_1283 : Cond.selects RX11 yX11_lift yX11_lift ∈ tblG := tg (i := 1283) (by decide +kernel) rfl
theorem w_1284 : Cond.code yX11_lift cX11_lift 3 (some .int) ∈ tblG := tg (i := 1284) (by decide +kernel) rfl
theorem w_1285 : Cond.methodLink RX11 274 yX11_bestLift ∈ tblG := tg (i := 1285) (by decide +kernel) rfl
theorem w_1287 : Cond.instanceMethod yX11_bestLift ∈ tblG := tg (i := 1287) (by decide +kernel) rfl
theorem w_1288 : Cond.code yX11_bestLift cX11_bestLift 6 (some .int) ∈ tblG := tg (i := 1288) (by decide +kernel) rfl
theorem w_1289 : Cond.methodLink RX11 277 yX0_isLeft ∈ tblG := tg (i := 1289) (by decide +kernel) rfl
theorem w_1290 : Cond.methodLink RX11 280 yX4_turnOver ∈ tblG := tg (i := 1290) (by decide +kernel) rfl
theorem w_1291 : Cond.instanceMethod yX4_turnOver ∈ tblG := tg (i := 1291) (by decide +kernel) rfl
theorem w_1292 : Cond.selects RX4 yX4_turnOver yX4_turnOver ∈ tblG := tg (i := 1292) (by decide +kernel) rfl
theorem w_1293 : Cond.code yX4_turnOver cX4_turnOver 6 none ∈ tblG := tg (i := 1293) (by decide +kernel) rfl
theorem w_1294 : Cond.methodLink "HandKnotLaw" 127 yX11_twist ∈ tblG := tg (i := 1294) (by decide +kernel) rfl
theorem w_1295 : Cond.instanceMethod yX11_twist ∈ tblG := tg (i := 1295) (by decide +kernel) rfl
theorem w_1296 : Cond.selects RX11 yX11_twist yX11_twist ∈ tblG := tg (i := 1296) (by decide +kernel) rfl
theorem w_1297 : Cond.code yX11_twist cX11_twist 2 (some .int) ∈ tblG := tg (i := 1297) (by decide +kernel) rfl
theorem w_1298 : Cond.methodLink "HandKnotLaw" 131 yX11_arcs ∈ tblG := tg (i := 1298) (by decide +kernel) rfl
theorem w_1299 : Cond.instanceMethod yX11_arcs ∈ tblG := tg (i := 1299) (by decide +kernel) rfl
theorem w_1300 : Cond.selects RX11 yX11_arcs yX11_arcs ∈ tblG := tg (i := 1300) (by decide +kernel) rfl
theorem w_1301 : Cond.code yX11_arcs cX11_arcs 1 (some .int) ∈ tblG := tg (i := 1301) (by decide +kernel) rfl
theorem w_1302 : Cond.methodLink RX11 283 yX2_countArcs ∈ tblG := tg (i := 1302) (by decide +kernel) rfl
theorem w_1303 : Cond.methodLink "HandKnotLaw" 135 yX11_reached ∈ tblG := tg (i := 1303) (by decide +kernel) rfl
theorem w_1304 : Cond.instanceMethod yX11_reached ∈ tblG := tg (i := 1304) (by decide +kernel) rfl
theorem w_1305 : Cond.selects RX11 yX11_reached yX11_reached ∈ tblG := tg (i := 1305) (by decide +kernel) rfl
theorem w_1306 : Cond.code yX11_reached cX11_reached 3 (some .int) ∈ tblG := tg (i := 1306) (by decide +kernel) rfl
theorem w_1307 : Cond.methodLink RX11 287 yX7_countReached ∈ tblG := tg (i := 1307) (by decide +kernel) rfl
theorem w_1308 : Cond.instanceMethod yX7_countReached ∈ tblG := tg (i := 1308) (by decide +kernel) rfl
theorem w_1309 : Cond.selects RX7 yX7_countReached yX7_countReached ∈ tblG := tg (i := 1309) (by decide +kernel) rfl
theorem w_1310 : Cond.code yX7_countReached cX7_countReached 3 (some .int) ∈ tblG := tg (i := 1310) (by decide +kernel) rfl
theorem w_1311 : Cond.methodLink "HandKnotLaw" 139 yX11_few ∈ tblG := tg (i := 1311) (by decide +kernel) rfl
theorem w_1312 : Cond.instanceMethod yX11_few ∈ tblG := tg (i := 1312) (by decide +kernel) rfl
theorem w_1313 : Cond.selects RX11 yX11_few yX11_few ∈ tblG := tg (i := 1313) (by decide +kernel) rfl
theorem w_1314 : Cond.code yX11_few cX11_few 3 (some .int) ∈ tblG := tg (i := 1314) (by decide +kernel) rfl
theorem w_1315 : Cond.methodLink RX11 290 yX7_leastLeft ∈ tblG := tg (i := 1315) (by decide +kernel) rfl
theorem w_1316 : Cond.instanceMethod yX7_leastLeft ∈ tblG := tg (i := 1316) (by decide +kernel) rfl
theorem w_1317 : Cond.selects RX7 yX7_leastLeft yX7_leastLeft ∈ tblG := tg (i := 1317) (by decide +kernel) rfl
theorem w_1318 : Cond.code yX7_leastLeft cX7_leastLeft 5 (some .int) ∈ tblG := tg (i := 1318) (by decide +kernel) rfl
theorem w_1319 : Cond.methodLink RX7 45 yX7_crossingsIn ∈ tblG := tg (i := 1319) (by decide +kernel) rfl
theorem w_1320 : Cond.static yX7_crossingsIn ∈ tblG := tg (i := 1320) (by decide +kernel) rfl
theorem w_1321 : Cond.code yX7_crossingsIn cX7_crossingsIn 4 (some .int) ∈ tblG := tg (i := 1321) (by decide +kernel) rfl
theorem w_1322 : Cond.methodLink RX7 55 yX4_passAt ∈ tblG := tg (i := 1322) (by decide +kernel) rfl
theorem w_1323 : Cond.methodLink RX7 49 Lib.Math.min.name ∈ tblG := tg (i := 1323) (by decide +kernel) rfl
theorem w_1324 : Cond.methodLink "HandKnotLaw" 143 yX11_sees ∈ tblG := tg (i := 1324) (by decide +kernel) rfl
theorem w_1325 : Cond.instanceMethod yX11_sees ∈ tblG := tg (i := 1325) (by decide +kernel) rfl
theorem w_1326 : Cond.selects RX11 yX11_sees yX11_sees ∈ tblG := tg (i := 1326) (by decide +kernel) rfl
theorem w_1327 : Cond.code yX11_sees cX11_sees 2 (some .int) ∈ tblG := tg (i := 1327) (by decide +kernel) rfl
theorem w_1328 : Cond.methodLink RX11 293 yX0_seenBy ∈ tblG := tg (i := 1328) (by decide +kernel) rfl
theorem w_1329 : Cond.instanceMethod yX0_seenBy ∈ tblG := tg (i := 1329) (by decide +kernel) rfl
theorem w_1330 : Cond.selects RX0 yX0_seenBy yX0_seenBy ∈ tblG := tg (i := 1330) (by decide +kernel) rfl
theorem w_1331 : Cond.code yX0_seenBy cX0_seenBy 5 (some .int) ∈ tblG := tg (i := 1331) (by decide +kernel) rfl
theorem w_1332 : Cond.methodLink "HandKnotLaw" 147 yX11_own ∈ tblG := tg (i := 1332) (by decide +kernel) rfl
theorem w_1333 : Cond.instanceMethod yX11_own ∈ tblG := tg (i := 1333) (by decide +kernel) rfl
theorem w_1334 : Cond.selects RX11 yX11_own yX11_own ∈ tblG := tg (i := 1334) (by decide +kernel) rfl
theorem w_1335 : Cond.code yX11_own cX11_own 2 (some .int) ∈ tblG := tg (i := 1335) (by decide +kernel) rfl
theorem w_1336 : Cond.methodLink RX11 296 yX10_bestOwn ∈ tblG := tg (i := 1336) (by decide +kernel) rfl
theorem w_1337 : Cond.static yX10_bestOwn ∈ tblG := tg (i := 1337) (by decide +kernel) rfl
theorem w_1338 : Cond.code yX10_bestOwn cX10_bestOwn 8 (some .int) ∈ tblG := tg (i := 1338) (by decide +kernel) rfl
theorem w_1339 : Cond.methodLink RX10 65 yX0_seenBy ∈ tblG := tg (i := 1339) (by decide +kernel) rfl
theorem w_1340 : Cond.methodLink RX10 68 yX0_touchedBy ∈ tblG := tg (i := 1340) (by decide +kernel) rfl
theorem w_1341 : Cond.static yX0_touchedBy ∈ tblG := tg (i := 1341) (by decide +kernel) rfl
theorem w_1342 : Cond.code yX0_touchedBy cX0_touchedBy 2 (some .int) ∈ tblG := tg (i := 1342) (by decide +kernel) rfl
theorem w_1343 : Cond.methodLink "HandKnotLaw" 151 yX11_rounds ∈ tblG := tg (i := 1343) (by decide +kernel) rfl
theorem w_1344 : Cond.instanceMethod yX11_rounds ∈ tblG := tg (i := 1344) (by decide +kernel) rfl
theorem w_1345 : Cond.selects RX11 yX11_rounds yX11_rounds ∈ tblG := tg (i := 1345) (by decide +kernel) rfl
theorem w_1346 : Cond.code yX11_rounds cX11_rounds 2 (some .int) ∈ tblG := tg (i := 1346) (by decide +kernel) rfl
theorem w_1347 : Cond.methodLink RX11 299 yX10_leftBehindRounds ∈ tblG := tg (i := 1347) (by decide +kernel) rfl
theorem w_1348 : Cond.instanceMethod yX10_leftBehindRounds ∈ tblG := tg (i := 1348) (by decide +kernel) rfl
theorem w_1349 : Cond.selects RX10 yX10_leftBehindRounds yX10_leftBehindRounds ∈ tblG := tg (i := 1349) (by decide +kernel) rfl
theorem w_1350 : Cond.code yX10_leftBehindRounds cX10_leftBehindRounds 6 (some .int) ∈ tblG := tg (i := 1350) (by decide +kernel) rfl
theorem w_1351 : Cond.methodLink RX10 71 yX0_lay ∈ tblG := tg (i := 1351) (by decide +kernel) rfl
theorem w_1352 : Cond.methodLink RX10 80 yX10_bestOwn ∈ tblG := tg (i := 1352) (by decide +kernel) rfl
theorem w_1353 : Cond.methodLink RX10 84 yX0_make ∈ tblG := tg (i := 1353) (by decide +kernel) rfl
theorem w_1354 : Cond.instanceMethod yX0_make ∈ tblG := tg (i := 1354) (by decide +kernel) rfl
theorem w_1355 : Cond.selects RX0 yX0_make yX0_make ∈ tblG := tg (i := 1355) (by decide +kernel) rfl
theorem w_1356 : Cond.code yX0_make cX0_make 2 none ∈ tblG := tg (i := 1356) (by decide +kernel) rfl
theorem w_1357 : Cond.methodLink RX0 173 yX0_after ∈ tblG := tg (i := 1357) (by decide +kernel) rfl
theorem w_1358 : Cond.methodLink "HandKnotLaw" 155 yX11_tries ∈ tblG := tg (i := 1358) (by decide +kernel) rfl
theorem w_1359 : Cond.instanceMethod yX11_tries ∈ tblG := tg (i := 1359) (by decide +kernel) rfl
theorem w_1360 : Cond.selects RX11 yX11_tries yX11_tries ∈ tblG := tg (i := 1360) (by decide +kernel) rfl
theorem w_1361 : Cond.code yX11_tries cX11_tries 4 (some .int) ∈ tblG := tg (i := 1361) (by decide +kernel) rfl
theorem w_1362 : Cond.methodLink RX11 302 yX11_isSeed ∈ tblG := tg (i := 1362) (by decide +kernel) rfl
theorem w_1363 : Cond.static yX11_isSeed ∈ tblG := tg (i := 1363) (by decide +kernel) rfl
theorem w_1364 : Cond.code yX11_isSeed cX11_isSeed 1 (some .boolean) ∈ tblG := tg (i := 1364) (by decide +kernel) rfl
theorem w_1365 : Cond.constant RX11 104 (65537 : Int32) ∈ tblG := tg (i := 1365) (by decide +kernel) rfl
theorem w_1366 : Cond.methodLink RX11 305 yX10_looseTries ∈ tblG := tg (i := 1366) (by decide +kernel) rfl
theorem w_1367 : Cond.instanceMethod yX10_looseTries ∈ tblG := tg (i := 1367) (by decide +kernel) rfl
theorem w_1368 : Cond.selects RX10 yX10_looseTries yX10_looseTries ∈ tblG := tg (i := 1368) (by decide +kernel) rfl
theorem w_1369 : Cond.code yX10_looseTries cX10_looseTries 9 (some .int) ∈ tblG := tg (i := 1369) (by decide +kernel) rfl
theorem w_1370 : Cond.methodLink RX10 88 yX4_seedBehind ∈ tblG := tg (i := 1370) (by decide +kernel) rfl
theorem w_1371 : Cond.static yX4_seedBehind ∈ tblG := tg (i := 1371) (by decide +kernel) rfl
theorem w_1372 : Cond.code yX4_seedBehind cX4_seedBehind 1 (some .int) ∈ tblG := tg (i := 1372) (by decide +kernel) rfl
theorem w_1373 : Cond.constant RX4 25 (65537 : Int32) ∈ tblG := tg (i := 1373) (by decide +kernel) rfl
theorem w_1374 : Cond.methodLink RX10 91 yX0_drawn ∈ tblG := tg (i := 1374) (by decide +kernel) rfl
theorem w_1375 : Cond.instanceMethod yX0_drawn ∈ tblG := tg (i := 1375) (by decide +kernel) rfl
theorem w_1376 : Cond.selects RX0 yX0_drawn yX0_drawn ∈ tblG := tg (i := 1376) (by decide +kernel) rfl
theorem w_1377 : Cond.code yX0_drawn cX0_drawn 2 (some .int) ∈ tblG := tg (i := 1377) (by decide +kernel) rfl
theorem w_1378 : Cond.methodLink "HandKnotLaw" 160 yX11_ways ∈ tblG := tg (i := 1378) (by decide +kernel) rfl
theorem w_1379 : Cond.instanceMethod yX11_ways ∈ tblG := tg (i := 1379) (by decide +kernel) rfl
theorem w_1380 : Cond.selects RX11 yX11_ways yX11_ways ∈ tblG := tg (i := 1380) (by decide +kernel) rfl
theorem w_1381 : Cond.code yX11_ways cX11_ways 4 (some .long) ∈ tblG := tg (i := 1381) (by decide +kernel) rfl
theorem w_1382 : Cond.methodLink RX11 309 yX1_isCrowd ∈ tblG := tg (i := 1382) (by decide +kernel) rfl
theorem w_1383 : Cond.static yX1_isCrowd ∈ tblG := tg (i := 1383) (by decide +kernel) rfl
theorem w_1384 : Cond.code yX1_isCrowd cX1_isCrowd 1 (some .boolean) ∈ tblG := tg (i := 1384) (by decide +kernel) rfl
theorem w_1385 : Cond.methodLink RX11 312 yX1_isRingCount ∈ tblG := tg (i := 1385) (by decide +kernel) rfl
theorem w_1386 : Cond.static yX1_isRingCount ∈ tblG := tg (i := 1386) (by decide +kernel) rfl
theorem w_1387 : Cond.code yX1_isRingCount cX1_isRingCount 1 (some .boolean) ∈ tblG := tg (i := 1387) (by decide +kernel) rfl
theorem w_1388 : Cond.methodLink RX11 315 yX1_waysInto ∈ tblG := tg (i := 1388) (by decide +kernel) rfl
theorem w_1389 : Cond.instanceMethod yX1_waysInto ∈ tblG := tg (i := 1389) (by decide +kernel) rfl
theorem w_1390 : Cond.selects RX1 yX1_waysInto yX1_waysInto ∈ tblG := tg (i := 1390) (by decide +kernel) rfl
theorem w_1391 : Cond.code yX1_waysInto cX1_waysInto 4 (some .long) ∈ tblG := tg (i := 1391) (by decide +kernel) rfl
theorem w_1392 : Cond.methodLink RX1 20 yX1_fill ∈ tblG := tg (i := 1392) (by decide +kernel) rfl
theorem w_1393 : Cond.static yX1_fill ∈ tblG := tg (i := 1393) (by decide +kernel) rfl
theorem w_1394 : Cond.code yX1_fill cX1_fill 4 none ∈ tblG := tg (i := 1394) (by decide +kernel) rfl
theorem w_1395 : Cond.methodLink RX1 32 yX1_waysByFirstRing ∈ tblG := tg (i := 1395) (by decide +kernel) rfl
theorem w_1396 : Cond.static yX1_waysByFirstRing ∈ tblG := tg (i := 1396) (by decide +kernel) rfl
theorem w_1397 : Cond.code yX1_waysByFirstRing cX1_waysByFirstRing 9 (some .long) ∈ tblG := tg (i := 1397) (by decide +kernel) rfl
theorem w_1398 : Cond.constantLong RX1 36 (2 : Int64) ∈ tblG := tg (i := 1398) (by decide +kernel) rfl
theorem w_1399 : Cond.methodLink RX1 24 yX1_isRingCount ∈ tblG := tg (i := 1399) (by decide +kernel) rfl
theorem w_1400 : Cond.methodLink "HandKnotLaw" 165 yX11_odds ∈ tblG := tg (i := 1400) (by decide +kernel) rfl
theorem w_1401 : Cond.instanceMethod yX11_odds ∈ tblG := tg (i := 1401) (by decide +kernel) rfl
theorem w_1402 : Cond.selects RX11 yX11_odds yX11_odds ∈ tblG := tg (i := 1402) (by decide +kernel) rfl
theorem w_1403 : Cond.code yX11_odds cX11_odds 7 (some .long) ∈ tblG := tg (i := 1403) (by decide +kernel) rfl
theorem w_1404 : Cond.methodLink RX11 319 yX1_allWays ∈ tblG := tg (i := 1404) (by decide +kernel) rfl
theorem w_1405 : Cond.instanceMethod yX1_allWays ∈ tblG := tg (i := 1405) (by decide +kernel) rfl
theorem w_1406 : Cond.selects RX1 yX1_allWays yX1_allWays ∈ tblG := tg (i := 1406) (by decide +kernel) rfl
theorem w_1407 : Cond.code yX1_allWays cX1_allWays 6 (some .long) ∈ tblG := tg (i := 1407) (by decide +kernel) rfl
theorem w_1408 : Cond.methodLink RX1 28 yX1_waysInto ∈ tblG := tg (i := 1408) (by decide +kernel) rfl
theorem w_1409 : Cond.methodLink RX11 323 yX1_inLowestTerms ∈ tblG := tg (i := 1409) (by decide +kernel) rfl
theorem w_1410 : Cond.static yX1_inLowestTerms ∈ tblG := tg (i := 1410) (by decide +kernel) rfl
theorem w_1411 : Cond.code yX1_inLowestTerms cX1_inLowestTerms 9 (some .long) ∈ tblG := tg (i := 1411) (by decide +kernel) rfl
theorem w_1412 : Cond.methodLink RX1 38 yX1_commonDivisor ∈ tblG := tg (i := 1412) (by decide +kernel) rfl
theorem w_1413 : Cond.static yX1_commonDivisor ∈ tblG := tg (i := 1413) (by decide +kernel) rfl
theorem w_1414 : Cond.code yX1_commonDivisor cX1_commonDivisor 11 (some .long) ∈ tblG := tg (i := 1414) (by decide +kernel) rfl
theorem w_1415 : Cond.methodLink "HandKnotLaw" 170 yX11_mean ∈ tblG := tg (i := 1415) (by decide +kernel) rfl
theorem w_1416 : Cond.instanceMethod yX11_mean ∈ tblG := tg (i := 1416) (by decide +kernel) rfl
theorem w_1417 : Cond.selects RX11 yX11_mean yX11_mean ∈ tblG := tg (i := 1417) (by decide +kernel) rfl
theorem w_1418 : Cond.code yX11_mean cX11_mean 6 (some .long) ∈ tblG := tg (i := 1418) (by decide +kernel) rfl
theorem w_1419 : Cond.methodLink RX11 327 yX1_allRings ∈ tblG := tg (i := 1419) (by decide +kernel) rfl
theorem w_1420 : Cond.instanceMethod yX1_allRings ∈ tblG := tg (i := 1420) (by decide +kernel) rfl
theorem w_1421 : Cond.selects RX1 yX1_allRings yX1_allRings ∈ tblG := tg (i := 1421) (by decide +kernel) rfl
theorem w_1422 : Cond.code yX1_allRings cX1_allRings 6 (some .long) ∈ tblG := tg (i := 1422) (by decide +kernel) rfl
theorem w_1423 : Cond.methodLink "HandKnotLaw" 175 yX11_move ∈ tblG := tg (i := 1423) (by decide +kernel) rfl
theorem w_1424 : Cond.instanceMethod yX11_move ∈ tblG := tg (i := 1424) (by decide +kernel) rfl
theorem w_1425 : Cond.selects RX11 yX11_move yX11_move ∈ tblG := tg (i := 1425) (by decide +kernel) rfl
theorem w_1426 : Cond.code yX11_move cX11_move 2 (some .int) ∈ tblG := tg (i := 1426) (by decide +kernel) rfl
theorem w_1427 : Cond.methodLink RX11 334 yX3_keep ∈ tblG := tg (i := 1427) (by decide +kernel) rfl
theorem w_1428 : Cond.instanceMethod yX3_keep ∈ tblG := tg (i := 1428) (by decide +kernel) rfl
theorem w_1429 : Cond.selects RX3 yX3_keep yX3_keep ∈ tblG := tg (i := 1429) (by decide +kernel) rfl
theorem w_1430 : Cond.code yX3_keep cX3_keep 2 none ∈ tblG := tg (i := 1430) (by decide +kernel) rfl
theorem w_1431 : Cond.methodLink RX3 31 yX4_become ∈ tblG := tg (i := 1431) (by decide +kernel) rfl
theorem w_1432 : Cond.methodLink RX3 35 Lib.Math.min.name ∈ tblG := tg (i := 1432) (by decide +kernel) rfl
theorem w_1433 : Cond.methodLink RX11 337 yX11_makeMove ∈ tblG := tg (i := 1433) (by decide +kernel) rfl
theorem w_1435 : Cond.instanceMethod yX11_makeMove ∈ tblG := tg (i := 1435) (by decide +kernel) rfl
theorem w_1436 : Cond.code yX11_makeMove cX11_makeMove 2 none ∈ tblG := tg (i := 1436) (by decide +kernel) rfl
theorem w_1437 : Cond.methodLink RX11 330 yX0_after ∈ tblG := tg (i := 1437) (by decide +kernel) rfl
theorem w_1438 : Cond.methodLink "HandKnotLaw" 179 yX11_parts ∈ tblG := tg (i := 1438) (by decide +kernel) rfl
theorem w_1439 : Cond.instanceMethod yX11_parts ∈ tblG := tg (i := 1439) (by decide +kernel) rfl
theorem w_1440 : Cond.selects RX11 yX11_parts yX11_parts ∈ tblG := tg (i := 1440) (by decide +kernel) rfl
theorem w_1441 : Cond.code yX11_parts cX11_parts 3 (some .int) ∈ tblG := tg (i := 1441) (by decide +kernel) rfl
theorem w_1442 : Cond.methodLink "HandKnotLaw" 183 yX11_lifts ∈ tblG := tg (i := 1442) (by decide +kernel) rfl
theorem w_1443 : Cond.instanceMethod yX11_lifts ∈ tblG := tg (i := 1443) (by decide +kernel) rfl
theorem w_1444 : Cond.selects RX11 yX11_lifts yX11_lifts ∈ tblG := tg (i := 1444) (by decide +kernel) rfl
theorem w_1445 : Cond.code yX11_lifts cX11_lifts 2 (some .int) ∈ tblG := tg (i := 1445) (by decide +kernel) rfl
theorem w_1446 : Cond.methodLink "HandKnotLaw" 187 yX11_lot ∈ tblG := tg (i := 1446) (by decide +kernel) rfl
theorem w_1447 : Cond.instanceMethod yX11_lot ∈ tblG := tg (i := 1447) (by decide +kernel) rfl
theorem w_1448 : Cond.selects RX11 yX11_lot yX11_lot ∈ tblG := tg (i := 1448) (by decide +kernel) rfl
theorem w_1449 : Cond.code yX11_lot cX11_lot 2 (some .int) ∈ tblG := tg (i := 1449) (by decide +kernel) rfl
theorem w_1450 : Cond.methodLink RX11 343 yX4_seedBehind ∈ tblG := tg (i := 1450) (by decide +kernel) rfl
theorem w_1451 : Cond.methodLink RX11 346 yX0_drawn ∈ tblG := tg (i := 1451) (by decide +kernel) rfl
theorem w_1452 : Cond.methodLink "HandKnotLaw" 191 yX11_call ∈ tblG := tg (i := 1452) (by decide +kernel) rfl
theorem w_1453 : Cond.instanceMethod yX11_call ∈ tblG := tg (i := 1453) (by decide +kernel) rfl
theorem w_1454 : Cond.selects RX11 yX11_call yX11_call ∈ tblG := tg (i := 1454) (by decide +kernel) rfl
theorem w_1455 : Cond.code yX11_call cX11_call 2 (some .int) ∈ tblG := tg (i := 1455) (by decide +kernel) rfl
theorem w_1456 : Cond.methodLink "HandKnotLaw" 195 yX11_seed ∈ tblG := tg (i := 1456) (by decide +kernel) rfl
theorem w_1457 : Cond.instanceMethod yX11_seed ∈ tblG := tg (i := 1457) (by decide +kernel) rfl
theorem w_1458 : Cond.selects RX11 yX11_seed yX11_seed ∈ tblG := tg (i := 1458) (by decide +kernel) rfl
theorem w_1459 : Cond.code yX11_seed cX11_seed 2 (some .boolean) ∈ tblG := tg (i := 1459) (by decide +kernel) rfl
theorem w_1460 : Cond.methodLink RX11 349 yX11_refuseFlatly ∈ tblG := tg (i := 1460) (by decide +kernel) rfl
theorem w_1462 : Cond.instanceMethod yX11_refuseFlatly ∈ tblG := tg (i := 1462) (by decide +kernel) rfl
theorem w_1463 : Cond.code yX11_refuseFlatly cX11_refuseFlatly 2 (some .boolean) ∈ tblG := tg (i := 1463) (by decide +kernel) rfl
theorem w_1464 : Cond.methodLink "HandKnotLaw" 200 yX11_undo ∈ tblG := tg (i := 1464) (by decide +kernel) rfl
theorem w_1465 : Cond.instanceMethod yX11_undo ∈ tblG := tg (i := 1465) (by decide +kernel) rfl
theorem w_1466 : Cond.selects RX11 yX11_undo yX11_undo ∈ tblG := tg (i := 1466) (by decide +kernel) rfl
theorem w_1467 : Cond.code yX11_undo cX11_undo 1 (some .boolean) ∈ tblG := tg (i := 1467) (by decide +kernel) rfl
theorem w_1468 : Cond.methodLink RX11 352 yX3_giveLatest ∈ tblG := tg (i := 1468) (by decide +kernel) rfl
theorem w_1469 : Cond.instanceMethod yX3_giveLatest ∈ tblG := tg (i := 1469) (by decide +kernel) rfl
theorem w_1470 : Cond.selects RX3 yX3_giveLatest yX3_giveLatest ∈ tblG := tg (i := 1470) (by decide +kernel) rfl
theorem w_1471 : Cond.code yX3_giveLatest cX3_giveLatest 2 (some .boolean) ∈ tblG := tg (i := 1471) (by decide +kernel) rfl
theorem w_1472 : Cond.methodLink "HandKnotLaw" 205 yX11_mark ∈ tblG := tg (i := 1472) (by decide +kernel) rfl
theorem w_1473 : Cond.instanceMethod yX11_mark ∈ tblG := tg (i := 1473) (by decide +kernel) rfl
theorem w_1474 : Cond.selects RX11 yX11_mark yX11_mark ∈ tblG := tg (i := 1474) (by decide +kernel) rfl
theorem w_1475 : Cond.code yX11_mark cX11_mark 2 (some .int) ∈ tblG := tg (i := 1475) (by decide +kernel) rfl
theorem w_1476 : Cond.methodLink RX11 356 yX3_setMark ∈ tblG := tg (i := 1476) (by decide +kernel) rfl
theorem w_1477 : Cond.instanceMethod yX3_setMark ∈ tblG := tg (i := 1477) (by decide +kernel) rfl
theorem w_1478 : Cond.selects RX3 yX3_setMark yX3_setMark ∈ tblG := tg (i := 1478) (by decide +kernel) rfl
theorem w_1479 : Cond.code yX3_setMark cX3_setMark 2 (some .int) ∈ tblG := tg (i := 1479) (by decide +kernel) rfl
theorem w_1480 : Cond.methodLink "HandKnotLaw" 209 yX11_back ∈ tblG := tg (i := 1480) (by decide +kernel) rfl
theorem w_1481 : Cond.instanceMethod yX11_back ∈ tblG := tg (i := 1481) (by decide +kernel) rfl
theorem w_1482 : Cond.selects RX11 yX11_back yX11_back ∈ tblG := tg (i := 1482) (by decide +kernel) rfl
theorem w_1483 : Cond.code yX11_back cX11_back 2 (some .boolean) ∈ tblG := tg (i := 1483) (by decide +kernel) rfl
theorem w_1484 : Cond.methodLink RX11 360 yX3_giveMarked ∈ tblG := tg (i := 1484) (by decide +kernel) rfl
theorem w_1485 : Cond.instanceMethod yX3_giveMarked ∈ tblG := tg (i := 1485) (by decide +kernel) rfl
theorem w_1486 : Cond.selects RX3 yX3_giveMarked yX3_giveMarked ∈ tblG := tg (i := 1486) (by decide +kernel) rfl
theorem w_1487 : Cond.code yX3_giveMarked cX3_giveMarked 3 (some .boolean) ∈ tblG := tg (i := 1487) (by decide +kernel) rfl
theorem w_1488 : Cond.methodLink "HandKnotLaw" 222 yX11_size ∈ tblG := tg (i := 1488) (by decide +kernel) rfl
theorem w_1489 : Cond.instanceMethod yX11_size ∈ tblG := tg (i := 1489) (by decide +kernel) rfl
theorem w_1490 : Cond.selects RX11 yX11_size yX11_size ∈ tblG := tg (i := 1490) (by decide +kernel) rfl
theorem w_1491 : Cond.code yX11_size cX11_size 2 (some .int) ∈ tblG := tg (i := 1491) (by decide +kernel) rfl
theorem w_1492 : Cond.methodLink RX11 371 yX11_toldSize ∈ tblG := tg (i := 1492) (by decide +kernel) rfl
theorem w_1494 : Cond.instanceMethod yX11_toldSize ∈ tblG := tg (i := 1494) (by decide +kernel) rfl
theorem w_1495 : Cond.code yX11_toldSize cX11_toldSize 2 (some .int) ∈ tblG := tg (i := 1495) (by decide +kernel) rfl
theorem w_1496 : Cond.methodLink RX11 374 yX11_changingSize ∈ tblG := tg (i := 1496) (by decide +kernel) rfl
theorem w_1498 : Cond.instanceMethod yX11_changingSize ∈ tblG := tg (i := 1498) (by decide +kernel) rfl
theorem w_1499 : Cond.code yX11_changingSize cX11_changingSize 2 (some .int) ∈ tblG := tg (i := 1499) (by decide +kernel) rfl
theorem w_1500 : Cond.methodLink "HandKnotLaw" 226 yX11_trouble ∈ tblG := tg (i := 1500) (by decide +kernel) rfl
theorem w_1501 : Cond.instanceMethod yX11_trouble ∈ tblG := tg (i := 1501) (by decide +kernel) rfl
theorem w_1502 : Cond.selects RX11 yX11_trouble yX11_trouble ∈ tblG := tg (i := 1502) (by decide +kernel) rfl
theorem w_1503 : Cond.code yX11_trouble cX11_trouble 1 (some .int) ∈ tblG := tg (i := 1503) (by decide +kernel) rfl
theorem w_1504 : Cond.methodLink "HandKnotLaw" 213 yL_led ∈ tblG := tg (i := 1504) (by decide +kernel) rfl
theorem w_1505 : Cond.static yL_led ∈ tblG := tg (i := 1505) (by decide +kernel) rfl
theorem w_1508 : Cond.methodLink "HandKnotLaw" 7 yX11_led ∈ tblG := tg (i := 1508) (by decide +kernel) rfl
theorem w_1509 : Cond.instanceMethod yX11_led ∈ tblG := tg (i := 1509) (by decide +kernel) rfl
theorem w_1510 : Cond.selects RX11 yX11_led yX11_led ∈ tblG := tg (i := 1510) (by decide +kernel) rfl
theorem w_1511 : Cond.code yX11_led cX11_led 4 (some .int) ∈ tblG := tg (i := 1511) (by decide +kernel) rfl
theorem w_1538 : Cond.fieldLink "java/lang/Throwable" 13 "java/lang/Throwable" "UNASSIGNED_STACK" "[Ljava/lang/StackTraceElement;" ∈ tblG := tg (i := 1538) (by decide +kernel) rfl
theorem w_1540 : Cond.fieldLink "java/lang/Throwable" 20 "java/lang/Throwable" "SUPPRESSED_SENTINEL" "Ljava/util/List;" ∈ tblG := tg (i := 1540) (by decide +kernel) rfl
theorem w_1564 : Cond.fieldLink "java/lang/Throwable" 198 "java/lang/Throwable" "backtrace" "Ljava/lang/Object;" ∈ tblG := tg (i := 1564) (by decide +kernel) rfl
theorem w_1565 : Cond.fieldLink "java/lang/Throwable" 31 "java/lang/Throwable" "detailMessage" "Ljava/lang/String;" ∈ tblG := tg (i := 1565) (by decide +kernel) rfl
theorem w_1566 : Cond.fieldLink "java/lang/Throwable" 7 "java/lang/Throwable" "cause" "Ljava/lang/Throwable;" ∈ tblG := tg (i := 1566) (by decide +kernel) rfl
theorem w_1567 : Cond.fieldLink "java/lang/Throwable" 17 "java/lang/Throwable" "stackTrace" "[Ljava/lang/StackTraceElement;" ∈ tblG := tg (i := 1567) (by decide +kernel) rfl
theorem w_1568 : Cond.fieldLink "java/lang/Throwable" 24 "java/lang/Throwable" "suppressedExceptions" "Ljava/util/List;" ∈ tblG := tg (i := 1568) (by decide +kernel) rfl
theorem w_1579 : Cond.methodLink "HandKnotLaw" 18 yX13_init ∈ tblG := tg (i := 1579) (by decide +kernel) rfl
theorem w_1580 : Cond.instanceMethod yX13_init ∈ tblG := tg (i := 1580) (by decide +kernel) rfl
theorem w_1581 : Cond.code yX13_init cX13_init 1 none ∈ tblG := tg (i := 1581) (by decide +kernel) rfl
theorem w_1583 : Cond.fieldLink RX13 70 "HandKnotModel" "thrown" "I" ∈ tblG := tg (i := 1583) (by decide +kernel) rfl
theorem w_1584 : Cond.fieldLink RX13 73 "HandKnotModel" "trouble" "I" ∈ tblG := tg (i := 1584) (by decide +kernel) rfl
theorem w_1585 : Cond.fieldLink RX13 9 "HandKnotModel" "where" "I" ∈ tblG := tg (i := 1585) (by decide +kernel) rfl
theorem w_1586 : Cond.fieldLink RX13 310 "HandKnotModel" "tangle" "LHandKnotModel$Tangle;" ∈ tblG := tg (i := 1586) (by decide +kernel) rfl
theorem w_1587 : Cond.fieldLink RX13 165 "HandKnotModel" "read" "LHandKnotModel$Tangle;" ∈ tblG := tg (i := 1587) (by decide +kernel) rfl
theorem w_1588 : Cond.fieldLink RX13 13 "HandKnotModel" "tape" "[B" ∈ tblG := tg (i := 1588) (by decide +kernel) rfl
theorem w_1589 : Cond.fieldLink RX13 303 "HandKnotModel" "taped" "I" ∈ tblG := tg (i := 1589) (by decide +kernel) rfl
theorem w_1590 : Cond.fieldLink RX13 83 "HandKnotModel" "size" "I" ∈ tblG := tg (i := 1590) (by decide +kernel) rfl
theorem w_1591 : Cond.fieldLink RX13 101 "HandKnotModel" "spot" "I" ∈ tblG := tg (i := 1591) (by decide +kernel) rfl
theorem w_1592 : Cond.fieldLink RX13 98 "HandKnotModel" "sort" "I" ∈ tblG := tg (i := 1592) (by decide +kernel) rfl
theorem w_1593 : Cond.fieldLink RX13 107 "HandKnotModel" "place" "I" ∈ tblG := tg (i := 1593) (by decide +kernel) rfl
theorem w_1594 : Cond.fieldLink RX13 121 "HandKnotModel" "number" "I" ∈ tblG := tg (i := 1594) (by decide +kernel) rfl
theorem w_1595 : Cond.fieldLink RX13 124 "HandKnotModel" "fault" "I" ∈ tblG := tg (i := 1595) (by decide +kernel) rfl
theorem w_1596 : Cond.fieldLink RX13 127 "HandKnotModel" "wrongAt" "I" ∈ tblG := tg (i := 1596) (by decide +kernel) rfl
theorem w_1597 : Cond.fieldLink RX13 114 "HandKnotModel" "word" "J" ∈ tblG := tg (i := 1597) (by decide +kernel) rfl
theorem w_1598 : Cond.fieldLink RX13 318 "HandKnotModel" "now" "J" ∈ tblG := tg (i := 1598) (by decide +kernel) rfl
theorem w_1599 : Cond.fieldLink RX13 321 "HandKnotModel" "parted" "I" ∈ tblG := tg (i := 1599) (by decide +kernel) rfl
theorem w_1600 : Cond.fieldLink RX13 324 "HandKnotModel" "lifted" "I" ∈ tblG := tg (i := 1600) (by decide +kernel) rfl
theorem w_1601 : Cond.fieldLink RX13 327 "HandKnotModel" "seed" "I" ∈ tblG := tg (i := 1601) (by decide +kernel) rfl
theorem w_1602 : Cond.fieldLink RX13 17 "HandKnotModel" "spotOf" "[I" ∈ tblG := tg (i := 1602) (by decide +kernel) rfl
theorem w_1603 : Cond.fieldLink RX13 21 "HandKnotModel" "nextOf" "[I" ∈ tblG := tg (i := 1603) (by decide +kernel) rfl
theorem w_1604 : Cond.fieldLink RX13 24 "HandKnotModel" "come" "[J" ∈ tblG := tg (i := 1604) (by decide +kernel) rfl
theorem w_1605 : Cond.fieldLink RX13 28 "HandKnotModel" "table" "[J" ∈ tblG := tg (i := 1605) (by decide +kernel) rfl
theorem w_1606 : Cond.fieldLink RX13 453 "HandKnotModel" "many" "I" ∈ tblG := tg (i := 1606) (by decide +kernel) rfl
theorem w_1607 : Cond.fieldLink RX13 31 "HandKnotModel" "ahead" "[I" ∈ tblG := tg (i := 1607) (by decide +kernel) rfl
theorem w_1608 : Cond.fieldLink RX13 34 "HandKnotModel" "after" "[I" ∈ tblG := tg (i := 1608) (by decide +kernel) rfl
theorem w_1609 : Cond.fieldLink RX13 37 "HandKnotModel" "row" "[I" ∈ tblG := tg (i := 1609) (by decide +kernel) rfl
theorem w_1610 : Cond.fieldLink RX13 40 "HandKnotModel" "equation" "[I" ∈ tblG := tg (i := 1610) (by decide +kernel) rfl
theorem w_1611 : Cond.fieldLink RX13 478 "HandKnotModel" "arcs" "I" ∈ tblG := tg (i := 1611) (by decide +kernel) rfl
theorem w_1612 : Cond.fieldLink RX13 524 "HandKnotModel" "drawn" "I" ∈ tblG := tg (i := 1612) (by decide +kernel) rfl
theorem w_1613 : Cond.fieldLink RX13 43 "HandKnotModel" "ways" "[J" ∈ tblG := tg (i := 1613) (by decide +kernel) rfl
theorem w_1614 : Cond.fieldLink RX13 46 "HandKnotModel" "pastNow" "[J" ∈ tblG := tg (i := 1614) (by decide +kernel) rfl
theorem w_1615 : Cond.fieldLink RX13 49 "HandKnotModel" "keptNow" "[J" ∈ tblG := tg (i := 1615) (by decide +kernel) rfl
theorem w_1616 : Cond.fieldLink RX13 52 "HandKnotModel" "pastParted" "[I" ∈ tblG := tg (i := 1616) (by decide +kernel) rfl
theorem w_1617 : Cond.fieldLink RX13 55 "HandKnotModel" "pastSeed" "[I" ∈ tblG := tg (i := 1617) (by decide +kernel) rfl
theorem w_1618 : Cond.fieldLink RX13 58 "HandKnotModel" "pastLifted" "[I" ∈ tblG := tg (i := 1618) (by decide +kernel) rfl
theorem w_1619 : Cond.fieldLink RX13 61 "HandKnotModel" "keptParted" "[I" ∈ tblG := tg (i := 1619) (by decide +kernel) rfl
theorem w_1620 : Cond.fieldLink RX13 64 "HandKnotModel" "keptSeed" "[I" ∈ tblG := tg (i := 1620) (by decide +kernel) rfl
theorem w_1621 : Cond.fieldLink RX13 67 "HandKnotModel" "keptLifted" "[I" ∈ tblG := tg (i := 1621) (by decide +kernel) rfl
theorem w_1622 : Cond.fieldLink RX13 330 "HandKnotModel" "acts" "I" ∈ tblG := tg (i := 1622) (by decide +kernel) rfl
theorem w_1623 : Cond.fieldLink RX13 333 "HandKnotModel" "marks" "I" ∈ tblG := tg (i := 1623) (by decide +kernel) rfl
theorem w_1707 : Cond.methodLink "HandKnotLaw" 219 yX13_thrown ∈ tblG := tg (i := 1707) (by decide +kernel) rfl
theorem w_1708 : Cond.instanceMethod yX13_thrown ∈ tblG := tg (i := 1708) (by decide +kernel) rfl
theorem w_1709 : Cond.selects RX13 yX13_thrown yX13_thrown ∈ tblG := tg (i := 1709) (by decide +kernel) rfl
theorem w_1710 : Cond.code yX13_thrown cX13_thrown 1 (some .int) ∈ tblG := tg (i := 1710) (by decide +kernel) rfl
theorem w_1711 : Cond.methodLink "HandKnotLaw" 23 yX13_feed ∈ tblG := tg (i := 1711) (by decide +kernel) rfl
theorem w_1712 : Cond.instanceMethod yX13_feed ∈ tblG := tg (i := 1712) (by decide +kernel) rfl
theorem w_1713 : Cond.selects RX13 yX13_feed yX13_feed ∈ tblG := tg (i := 1713) (by decide +kernel) rfl
theorem w_1714 : Cond.code yX13_feed cX13_feed 8 (some .int) ∈ tblG := tg (i := 1714) (by decide +kernel) rfl
theorem w_1715 : Cond.methodLink "HandKnotLaw" 27 yX13_tangle ∈ tblG := tg (i := 1715) (by decide +kernel) rfl
theorem w_1716 : Cond.instanceMethod yX13_tangle ∈ tblG := tg (i := 1716) (by decide +kernel) rfl
theorem w_1717 : Cond.selects RX13 yX13_tangle yX13_tangle ∈ tblG := tg (i := 1717) (by decide +kernel) rfl
theorem w_1718 : Cond.code yX13_tangle cX13_tangle 2 (some .int) ∈ tblG := tg (i := 1718) (by decide +kernel) rfl
theorem w_1719 : Cond.methodLink RX13 76 yX13_refused ∈ tblG := tg (i := 1719) (by decide +kernel) rfl
theorem w_1721 : Cond.instanceMethod yX13_refused ∈ tblG := tg (i := 1721) (by decide +kernel) rfl
theorem w_1722 : Cond.code yX13_refused cX13_refused 2 (some .int) ∈ tblG := tg (i := 1722) (by decide +kernel) rfl
theorem w_1726 : Cond.instanceMethod yX12_init ∈ tblG := tg (i := 1726) (by decide +kernel) rfl
theorem w_1727 : Cond.code yX12_init cX12_init 1 none ∈ tblG := tg (i := 1727) (by decide +kernel) rfl
theorem w_1729 : Cond.fieldLink RX12 9 "HandKnotModel$Tangle" "height" "I" ∈ tblG := tg (i := 1729) (by decide +kernel) rfl
theorem w_1731 : Cond.fieldLink RX12 90 "HandKnotModel$Tangle" "people" "I" ∈ tblG := tg (i := 1731) (by decide +kernel) rfl
theorem w_1734 : Cond.fieldLink RX12 107 "HandKnotModel$Tangle" "crossings" "I" ∈ tblG := tg (i := 1734) (by decide +kernel) rfl
theorem w_1736 : Cond.fieldLink RX12 87 "HandKnotModel$Tangle" "names" "I" ∈ tblG := tg (i := 1736) (by decide +kernel) rfl
theorem w_1738 : Cond.fieldLink RX12 97 "HandKnotModel$Tangle" "rings" "I" ∈ tblG := tg (i := 1738) (by decide +kernel) rfl
theorem w_1740 : Cond.fieldLink RX12 114 "HandKnotModel$Tangle" "standings" "I" ∈ tblG := tg (i := 1740) (by decide +kernel) rfl
theorem w_1743 : Cond.fieldLink RX12 15 "HandKnotModel$Tangle" "tall" "[I" ∈ tblG := tg (i := 1743) (by decide +kernel) rfl
theorem w_1745 : Cond.fieldLink RX12 19 "HandKnotModel$Tangle" "one" "[I" ∈ tblG := tg (i := 1745) (by decide +kernel) rfl
theorem w_1747 : Cond.fieldLink RX12 22 "HandKnotModel$Tangle" "oneHand" "[I" ∈ tblG := tg (i := 1747) (by decide +kernel) rfl
theorem w_1749 : Cond.fieldLink RX12 25 "HandKnotModel$Tangle" "two" "[I" ∈ tblG := tg (i := 1749) (by decide +kernel) rfl
theorem w_1751 : Cond.fieldLink RX12 28 "HandKnotModel$Tangle" "twoHand" "[I" ∈ tblG := tg (i := 1751) (by decide +kernel) rfl
theorem w_1753 : Cond.fieldLink RX12 31 "HandKnotModel$Tangle" "linkOf" "[I" ∈ tblG := tg (i := 1753) (by decide +kernel) rfl
theorem w_1755 : Cond.fieldLink RX12 34 "HandKnotModel$Tangle" "over" "[I" ∈ tblG := tg (i := 1755) (by decide +kernel) rfl
theorem w_1757 : Cond.fieldLink RX12 37 "HandKnotModel$Tangle" "overAt" "[I" ∈ tblG := tg (i := 1757) (by decide +kernel) rfl
theorem w_1759 : Cond.fieldLink RX12 40 "HandKnotModel$Tangle" "under" "[I" ∈ tblG := tg (i := 1759) (by decide +kernel) rfl
theorem w_1761 : Cond.fieldLink RX12 43 "HandKnotModel$Tangle" "underAt" "[I" ∈ tblG := tg (i := 1761) (by decide +kernel) rfl
theorem w_1763 : Cond.fieldLink RX12 46 "HandKnotModel$Tangle" "sign" "[I" ∈ tblG := tg (i := 1763) (by decide +kernel) rfl
theorem w_1765 : Cond.fieldLink RX12 49 "HandKnotModel$Tangle" "name" "[J" ∈ tblG := tg (i := 1765) (by decide +kernel) rfl
theorem w_1767 : Cond.fieldLink RX12 53 "HandKnotModel$Tangle" "nameSort" "[I" ∈ tblG := tg (i := 1767) (by decide +kernel) rfl
theorem w_1769 : Cond.fieldLink RX12 56 "HandKnotModel$Tangle" "nameNumber" "[I" ∈ tblG := tg (i := 1769) (by decide +kernel) rfl
theorem w_1771 : Cond.fieldLink RX12 59 "HandKnotModel$Tangle" "usedAt" "[I" ∈ tblG := tg (i := 1771) (by decide +kernel) rfl
theorem w_1773 : Cond.fieldLink RX12 62 "HandKnotModel$Tangle" "ringOf" "[I" ∈ tblG := tg (i := 1773) (by decide +kernel) rfl
theorem w_1775 : Cond.fieldLink RX12 65 "HandKnotModel$Tangle" "linkRing" "[I" ∈ tblG := tg (i := 1775) (by decide +kernel) rfl
theorem w_1777 : Cond.fieldLink RX12 68 "HandKnotModel$Tangle" "linkRow" "[I" ∈ tblG := tg (i := 1777) (by decide +kernel) rfl
theorem w_1779 : Cond.fieldLink RX12 71 "HandKnotModel$Tangle" "member" "[I" ∈ tblG := tg (i := 1779) (by decide +kernel) rfl
theorem w_1781 : Cond.fieldLink RX12 74 "HandKnotModel$Tangle" "size" "[I" ∈ tblG := tg (i := 1781) (by decide +kernel) rfl
theorem w_1783 : Cond.fieldLink RX12 77 "HandKnotModel$Tangle" "along" "[Z" ∈ tblG := tg (i := 1783) (by decide +kernel) rfl
theorem w_1785 : Cond.fieldLink RX12 81 "HandKnotModel$Tangle" "standRing" "[I" ∈ tblG := tg (i := 1785) (by decide +kernel) rfl
theorem w_1787 : Cond.fieldLink RX12 84 "HandKnotModel$Tangle" "standLink" "[I" ∈ tblG := tg (i := 1787) (by decide +kernel) rfl
theorem w_1789 : Cond.fieldLink RX12 117 "HandKnotModel$Tangle" "first" "J" ∈ tblG := tg (i := 1789) (by decide +kernel) rfl
theorem w_1856 : Cond.methodLink RX13 138 yX13_goesOn ∈ tblG := tg (i := 1856) (by decide +kernel) rfl
theorem w_1858 : Cond.instanceMethod yX13_goesOn ∈ tblG := tg (i := 1858) (by decide +kernel) rfl
theorem w_1859 : Cond.code yX13_goesOn cX13_goesOn 3 none ∈ tblG := tg (i := 1859) (by decide +kernel) rfl
theorem w_1860 : Cond.methodLink RX13 104 yX13_byteAt ∈ tblG := tg (i := 1860) (by decide +kernel) rfl
theorem w_1862 : Cond.instanceMethod yX13_byteAt ∈ tblG := tg (i := 1862) (by decide +kernel) rfl
theorem w_1863 : Cond.code yX13_byteAt cX13_byteAt 2 (some .int) ∈ tblG := tg (i := 1863) (by decide +kernel) rfl
theorem w_1864 : Cond.methodLink RX13 110 yX13_isLetter ∈ tblG := tg (i := 1864) (by decide +kernel) rfl
theorem w_1865 : Cond.static yX13_isLetter ∈ tblG := tg (i := 1865) (by decide +kernel) rfl
theorem w_1866 : Cond.code yX13_isLetter cX13_isLetter 1 (some .boolean) ∈ tblG := tg (i := 1866) (by decide +kernel) rfl
theorem w_1867 : Cond.constantLong RX13 92 (32 : Int64) ∈ tblG := tg (i := 1867) (by decide +kernel) rfl
theorem w_1868 : Cond.methodLink RX13 118 yX13_isDigit ∈ tblG := tg (i := 1868) (by decide +kernel) rfl
theorem w_1869 : Cond.static yX13_isDigit ∈ tblG := tg (i := 1869) (by decide +kernel) rfl
theorem w_1870 : Cond.code yX13_isDigit cX13_isDigit 1 (some .boolean) ∈ tblG := tg (i := 1870) (by decide +kernel) rfl
theorem w_1871 : Cond.methodLink RX13 307 yX13_readAll ∈ tblG := tg (i := 1871) (by decide +kernel) rfl
theorem w_1873 : Cond.instanceMethod yX13_readAll ∈ tblG := tg (i := 1873) (by decide +kernel) rfl
theorem w_1874 : Cond.code yX13_readAll cX13_readAll 2 none ∈ tblG := tg (i := 1874) (by decide +kernel) rfl
theorem w_1875 : Cond.methodLink RX13 194 yX13_readLine ∈ tblG := tg (i := 1875) (by decide +kernel) rfl
theorem w_1877 : Cond.instanceMethod yX13_readLine ∈ tblG := tg (i := 1877) (by decide +kernel) rfl
theorem w_1878 : Cond.code yX13_readLine cX13_readLine 1 none ∈ tblG := tg (i := 1878) (by decide +kernel) rfl
theorem w_1880 : Cond.methodLink RX13 134 yX13_isWord ∈ tblG := tg (i := 1880) (by decide +kernel) rfl
theorem w_1882 : Cond.instanceMethod yX13_isWord ∈ tblG := tg (i := 1882) (by decide +kernel) rfl
theorem w_1883 : Cond.code yX13_isWord cX13_isWord 2 (some .boolean) ∈ tblG := tg (i := 1883) (by decide +kernel) rfl
theorem w_1884 : Cond.methodLink RX13 130 yX13_wordOf ∈ tblG := tg (i := 1884) (by decide +kernel) rfl
theorem w_1885 : Cond.static yX13_wordOf ∈ tblG := tg (i := 1885) (by decide +kernel) rfl
theorem w_1886 : Cond.code yX13_wordOf cX13_wordOf 4 (some .long) ∈ tblG := tg (i := 1886) (by decide +kernel) rfl
theorem w_1887 : Cond.methodLink RX13 86 yJ0_length_8abf5 ∈ tblG := tg (i := 1887) (by decide +kernel) rfl
theorem w_1888 : Cond.methodLink RX13 94 yJ0_charAt_5068e ∈ tblG := tg (i := 1888) (by decide +kernel) rfl
theorem w_1889 : Cond.methodLink RX13 206 yX13_readTangle ∈ tblG := tg (i := 1889) (by decide +kernel) rfl
theorem w_1891 : Cond.instanceMethod yX13_readTangle ∈ tblG := tg (i := 1891) (by decide +kernel) rfl
theorem w_1892 : Cond.code yX13_readTangle cX13_readTangle 3 none ∈ tblG := tg (i := 1892) (by decide +kernel) rfl
theorem w_1893 : Cond.methodLink RX13 141 yX13_flaw ∈ tblG := tg (i := 1893) (by decide +kernel) rfl
theorem w_1895 : Cond.instanceMethod yX13_flaw ∈ tblG := tg (i := 1895) (by decide +kernel) rfl
theorem w_1896 : Cond.code yX13_flaw cX13_flaw 2 none ∈ tblG := tg (i := 1896) (by decide +kernel) rfl
theorem w_1898 : Cond.methodLink RX13 220 yX13_readPart ∈ tblG := tg (i := 1898) (by decide +kernel) rfl
theorem w_1900 : Cond.instanceMethod yX13_readPart ∈ tblG := tg (i := 1900) (by decide +kernel) rfl
theorem w_1901 : Cond.code yX13_readPart cX13_readPart 5 (some .int) ∈ tblG := tg (i := 1901) (by decide +kernel) rfl
theorem w_1902 : Cond.methodLink RX13 149 yX13_needs ∈ tblG := tg (i := 1902) (by decide +kernel) rfl
theorem w_1904 : Cond.instanceMethod yX13_needs ∈ tblG := tg (i := 1904) (by decide +kernel) rfl
theorem w_1905 : Cond.code yX13_needs cX13_needs 2 none ∈ tblG := tg (i := 1905) (by decide +kernel) rfl
theorem w_1906 : Cond.methodLink RX13 153 yX13_bounded ∈ tblG := tg (i := 1906) (by decide +kernel) rfl
theorem w_1908 : Cond.instanceMethod yX13_bounded ∈ tblG := tg (i := 1908) (by decide +kernel) rfl
theorem w_1909 : Cond.code yX13_bounded cX13_bounded 3 (some .int) ∈ tblG := tg (i := 1909) (by decide +kernel) rfl
theorem w_1910 : Cond.methodLink RX13 145 yX13_in ∈ tblG := tg (i := 1910) (by decide +kernel) rfl
theorem w_1911 : Cond.static yX13_in ∈ tblG := tg (i := 1911) (by decide +kernel) rfl
theorem w_1912 : Cond.code yX13_in cX13_in 3 (some .boolean) ∈ tblG := tg (i := 1912) (by decide +kernel) rfl
theorem w_1914 : Cond.methodLink RX13 226 yX13_eatsWord ∈ tblG := tg (i := 1914) (by decide +kernel) rfl
theorem w_1916 : Cond.instanceMethod yX13_eatsWord ∈ tblG := tg (i := 1916) (by decide +kernel) rfl
theorem w_1917 : Cond.code yX13_eatsWord cX13_eatsWord 3 (some .boolean) ∈ tblG := tg (i := 1917) (by decide +kernel) rfl
theorem w_1919 : Cond.methodLink RX13 209 yX13_readPerson ∈ tblG := tg (i := 1919) (by decide +kernel) rfl
theorem w_1921 : Cond.instanceMethod yX13_readPerson ∈ tblG := tg (i := 1921) (by decide +kernel) rfl
theorem w_1922 : Cond.code yX13_readPerson cX13_readPerson 4 none ∈ tblG := tg (i := 1922) (by decide +kernel) rfl
theorem w_1923 : Cond.methodLink RX13 232 yX13_begins ∈ tblG := tg (i := 1923) (by decide +kernel) rfl
theorem w_1925 : Cond.instanceMethod yX13_begins ∈ tblG := tg (i := 1925) (by decide +kernel) rfl
theorem w_1926 : Cond.code yX13_begins cX13_begins 3 none ∈ tblG := tg (i := 1926) (by decide +kernel) rfl
theorem w_1927 : Cond.methodLink RX13 236 yX13_readFresh ∈ tblG := tg (i := 1927) (by decide +kernel) rfl
theorem w_1929 : Cond.instanceMethod yX13_readFresh ∈ tblG := tg (i := 1929) (by decide +kernel) rfl
theorem w_1930 : Cond.code yX13_readFresh cX13_readFresh 3 (some .long) ∈ tblG := tg (i := 1930) (by decide +kernel) rfl
theorem w_1931 : Cond.methodLink RX13 174 yX13_isName ∈ tblG := tg (i := 1931) (by decide +kernel) rfl
theorem w_1933 : Cond.instanceMethod yX13_isName ∈ tblG := tg (i := 1933) (by decide +kernel) rfl
theorem w_1934 : Cond.code yX13_isName cX13_isName 1 (some .boolean) ∈ tblG := tg (i := 1934) (by decide +kernel) rfl
theorem w_1937 : Cond.methodLink RX13 178 yX12_find ∈ tblG := tg (i := 1937) (by decide +kernel) rfl
theorem w_1938 : Cond.instanceMethod yX12_find ∈ tblG := tg (i := 1938) (by decide +kernel) rfl
theorem w_1939 : Cond.selects RX12 yX12_find yX12_find ∈ tblG := tg (i := 1939) (by decide +kernel) rfl
theorem w_1940 : Cond.code yX12_find cX12_find 4 (some .int) ∈ tblG := tg (i := 1940) (by decide +kernel) rfl
theorem w_1941 : Cond.methodLink RX13 240 yX13_names ∈ tblG := tg (i := 1941) (by decide +kernel) rfl
theorem w_1943 : Cond.instanceMethod yX13_names ∈ tblG := tg (i := 1943) (by decide +kernel) rfl
theorem w_1944 : Cond.code yX13_names cX13_names 5 none ∈ tblG := tg (i := 1944) (by decide +kernel) rfl
theorem w_1945 : Cond.methodLink RX13 212 yX13_readHold ∈ tblG := tg (i := 1945) (by decide +kernel) rfl
theorem w_1947 : Cond.instanceMethod yX13_readHold ∈ tblG := tg (i := 1947) (by decide +kernel) rfl
theorem w_1948 : Cond.code yX13_readHold cX13_readHold 8 none ∈ tblG := tg (i := 1948) (by decide +kernel) rfl
theorem w_1949 : Cond.methodLink RX13 258 yX13_known ∈ tblG := tg (i := 1949) (by decide +kernel) rfl
theorem w_1951 : Cond.instanceMethod yX13_known ∈ tblG := tg (i := 1951) (by decide +kernel) rfl
theorem w_1952 : Cond.code yX13_known cX13_known 3 (some .int) ∈ tblG := tg (i := 1952) (by decide +kernel) rfl
theorem w_1953 : Cond.methodLink RX13 261 yX13_readHand ∈ tblG := tg (i := 1953) (by decide +kernel) rfl
theorem w_1955 : Cond.instanceMethod yX13_readHand ∈ tblG := tg (i := 1955) (by decide +kernel) rfl
theorem w_1956 : Cond.code yX13_readHand cX13_readHand 4 (some .int) ∈ tblG := tg (i := 1956) (by decide +kernel) rfl
theorem w_1959 : Cond.methodLink RX13 264 yX13_isHeld ∈ tblG := tg (i := 1959) (by decide +kernel) rfl
theorem w_1961 : Cond.instanceMethod yX13_isHeld ∈ tblG := tg (i := 1961) (by decide +kernel) rfl
theorem w_1962 : Cond.code yX13_isHeld cX13_isHeld 4 (some .boolean) ∈ tblG := tg (i := 1962) (by decide +kernel) rfl
theorem w_1963 : Cond.methodLink RX13 215 yX13_readCross ∈ tblG := tg (i := 1963) (by decide +kernel) rfl
theorem w_1965 : Cond.instanceMethod yX13_readCross ∈ tblG := tg (i := 1965) (by decide +kernel) rfl
theorem w_1966 : Cond.code yX13_readCross cX13_readCross 7 none ∈ tblG := tg (i := 1966) (by decide +kernel) rfl
theorem w_1967 : Cond.methodLink RX13 280 yX13_readPlace ∈ tblG := tg (i := 1967) (by decide +kernel) rfl
theorem w_1969 : Cond.instanceMethod yX13_readPlace ∈ tblG := tg (i := 1969) (by decide +kernel) rfl
theorem w_1970 : Cond.code yX13_readPlace cX13_readPlace 4 (some .int) ∈ tblG := tg (i := 1970) (by decide +kernel) rfl
theorem w_1974 : Cond.methodLink RX13 197 yX13_eatsSemicolon ∈ tblG := tg (i := 1974) (by decide +kernel) rfl
theorem w_1976 : Cond.instanceMethod yX13_eatsSemicolon ∈ tblG := tg (i := 1976) (by decide +kernel) rfl
theorem w_1977 : Cond.code yX13_eatsSemicolon cX13_eatsSemicolon 2 (some .boolean) ∈ tblG := tg (i := 1977) (by decide +kernel) rfl
theorem w_1978 : Cond.methodLink RX13 312 yX12_laysRings ∈ tblG := tg (i := 1978) (by decide +kernel) rfl
theorem w_1979 : Cond.instanceMethod yX12_laysRings ∈ tblG := tg (i := 1979) (by decide +kernel) rfl
theorem w_1980 : Cond.selects RX12 yX12_laysRings yX12_laysRings ∈ tblG := tg (i := 1980) (by decide +kernel) rfl
theorem w_1981 : Cond.code yX12_laysRings cX12_laysRings 2 none ∈ tblG := tg (i := 1981) (by decide +kernel) rfl
theorem w_1982 : Cond.methodLink RX12 93 yX12_laysRing ∈ tblG := tg (i := 1982) (by decide +kernel) rfl
theorem w_1984 : Cond.instanceMethod yX12_laysRing ∈ tblG := tg (i := 1984) (by decide +kernel) rfl
theorem w_1985 : Cond.code yX12_laysRing cX12_laysRing 5 none ∈ tblG := tg (i := 1985) (by decide +kernel) rfl
theorem w_1986 : Cond.methodLink RX12 100 yX12_laysStandings ∈ tblG := tg (i := 1986) (by decide +kernel) rfl
theorem w_1988 : Cond.instanceMethod yX12_laysStandings ∈ tblG := tg (i := 1988) (by decide +kernel) rfl
theorem w_1989 : Cond.code yX12_laysStandings cX12_laysStandings 5 none ∈ tblG := tg (i := 1989) (by decide +kernel) rfl
theorem w_1990 : Cond.methodLink RX12 110 yX12_stands ∈ tblG := tg (i := 1990) (by decide +kernel) rfl
theorem w_1992 : Cond.instanceMethod yX12_stands ∈ tblG := tg (i := 1992) (by decide +kernel) rfl
theorem w_1993 : Cond.code yX12_stands cX12_stands 3 none ∈ tblG := tg (i := 1993) (by decide +kernel) rfl
theorem w_1994 : Cond.methodLink RX12 103 yX12_other ∈ tblG := tg (i := 1994) (by decide +kernel) rfl
theorem w_1995 : Cond.instanceMethod yX12_other ∈ tblG := tg (i := 1995) (by decide +kernel) rfl
theorem w_1996 : Cond.selects RX12 yX12_other yX12_other ∈ tblG := tg (i := 1996) (by decide +kernel) rfl
theorem w_1997 : Cond.code yX12_other cX12_other 3 (some .int) ∈ tblG := tg (i := 1997) (by decide +kernel) rfl
theorem w_1998 : Cond.methodLink RX13 80 yX13_good ∈ tblG := tg (i := 1998) (by decide +kernel) rfl
theorem w_2000 : Cond.instanceMethod yX13_good ∈ tblG := tg (i := 2000) (by decide +kernel) rfl
theorem w_2001 : Cond.code yX13_good cX13_good 2 (some .int) ∈ tblG := tg (i := 2001) (by decide +kernel) rfl
theorem w_2002 : Cond.methodLink "HandKnotLaw" 32 yX13_fault ∈ tblG := tg (i := 2002) (by decide +kernel) rfl
theorem w_2003 : Cond.instanceMethod yX13_fault ∈ tblG := tg (i := 2003) (by decide +kernel) rfl
theorem w_2004 : Cond.selects RX13 yX13_fault yX13_fault ∈ tblG := tg (i := 2004) (by decide +kernel) rfl
theorem w_2005 : Cond.code yX13_fault cX13_fault 1 (some .int) ∈ tblG := tg (i := 2005) (by decide +kernel) rfl
theorem w_2006 : Cond.methodLink "HandKnotLaw" 36 yX13_where ∈ tblG := tg (i := 2006) (by decide +kernel) rfl
theorem w_2007 : Cond.instanceMethod yX13_where ∈ tblG := tg (i := 2007) (by decide +kernel) rfl
theorem w_2008 : Cond.selects RX13 yX13_where yX13_where ∈ tblG := tg (i := 2008) (by decide +kernel) rfl
theorem w_2009 : Cond.code yX13_where cX13_where 1 (some .int) ∈ tblG := tg (i := 2009) (by decide +kernel) rfl
theorem w_2010 : Cond.methodLink "HandKnotLaw" 40 yX13_ring ∈ tblG := tg (i := 2010) (by decide +kernel) rfl
theorem w_2011 : Cond.instanceMethod yX13_ring ∈ tblG := tg (i := 2011) (by decide +kernel) rfl
theorem w_2012 : Cond.selects RX13 yX13_ring yX13_ring ∈ tblG := tg (i := 2012) (by decide +kernel) rfl
theorem w_2013 : Cond.code yX13_ring cX13_ring 2 (some .int) ∈ tblG := tg (i := 2013) (by decide +kernel) rfl
theorem w_2014 : Cond.methodLink RX13 406 yX13_isPerson ∈ tblG := tg (i := 2014) (by decide +kernel) rfl
theorem w_2016 : Cond.instanceMethod yX13_isPerson ∈ tblG := tg (i := 2016) (by decide +kernel) rfl
theorem w_2017 : Cond.code yX13_isPerson cX13_isPerson 2 (some .boolean) ∈ tblG := tg (i := 2017) (by decide +kernel) rfl
theorem w_2018 : Cond.methodLink "HandKnotLaw" 44 yX13_people ∈ tblG := tg (i := 2018) (by decide +kernel) rfl
theorem w_2019 : Cond.instanceMethod yX13_people ∈ tblG := tg (i := 2019) (by decide +kernel) rfl
theorem w_2020 : Cond.selects RX13 yX13_people yX13_people ∈ tblG := tg (i := 2020) (by decide +kernel) rfl
theorem w_2021 : Cond.code yX13_people cX13_people 2 (some .int) ∈ tblG := tg (i := 2021) (by decide +kernel) rfl
theorem w_2022 : Cond.methodLink RX13 412 yX13_isRing ∈ tblG := tg (i := 2022) (by decide +kernel) rfl
theorem w_2024 : Cond.instanceMethod yX13_isRing ∈ tblG := tg (i := 2024) (by decide +kernel) rfl
theorem w_2025 : Cond.code yX13_isRing cX13_isRing 2 (some .boolean) ∈ tblG := tg (i := 2025) (by decide +kernel) rfl
theorem w_2026 : Cond.methodLink "HandKnotLaw" 49 yX13_member ∈ tblG := tg (i := 2026) (by decide +kernel) rfl
theorem w_2027 : Cond.instanceMethod yX13_member ∈ tblG := tg (i := 2027) (by decide +kernel) rfl
theorem w_2028 : Cond.selects RX13 yX13_member yX13_member ∈ tblG := tg (i := 2028) (by decide +kernel) rfl
theorem w_2029 : Cond.code yX13_member cX13_member 3 (some .int) ∈ tblG := tg (i := 2029) (by decide +kernel) rfl
theorem w_2030 : Cond.methodLink "HandKnotLaw" 54 yX13_holds ∈ tblG := tg (i := 2030) (by decide +kernel) rfl
theorem w_2031 : Cond.instanceMethod yX13_holds ∈ tblG := tg (i := 2031) (by decide +kernel) rfl
theorem w_2032 : Cond.selects RX13 yX13_holds yX13_holds ∈ tblG := tg (i := 2032) (by decide +kernel) rfl
theorem w_2033 : Cond.code yX13_holds cX13_holds 3 (some .int) ∈ tblG := tg (i := 2033) (by decide +kernel) rfl
theorem w_2034 : Cond.methodLink RX13 420 yX12_other ∈ tblG := tg (i := 2034) (by decide +kernel) rfl
theorem w_2035 : Cond.methodLink "HandKnotLaw" 58 yX13_along ∈ tblG := tg (i := 2035) (by decide +kernel) rfl
theorem w_2036 : Cond.instanceMethod yX13_along ∈ tblG := tg (i := 2036) (by decide +kernel) rfl
theorem w_2037 : Cond.selects RX13 yX13_along yX13_along ∈ tblG := tg (i := 2037) (by decide +kernel) rfl
theorem w_2038 : Cond.code yX13_along cX13_along 2 (some .int) ∈ tblG := tg (i := 2038) (by decide +kernel) rfl
theorem w_2039 : Cond.methodLink RX13 423 yX13_isLink ∈ tblG := tg (i := 2039) (by decide +kernel) rfl
theorem w_2041 : Cond.instanceMethod yX13_isLink ∈ tblG := tg (i := 2041) (by decide +kernel) rfl
theorem w_2042 : Cond.code yX13_isLink cX13_isLink 2 (some .boolean) ∈ tblG := tg (i := 2042) (by decide +kernel) rfl
theorem w_2043 : Cond.methodLink "HandKnotLaw" 62 yX13_stands ∈ tblG := tg (i := 2043) (by decide +kernel) rfl
theorem w_2044 : Cond.instanceMethod yX13_stands ∈ tblG := tg (i := 2044) (by decide +kernel) rfl
theorem w_2045 : Cond.selects RX13 yX13_stands yX13_stands ∈ tblG := tg (i := 2045) (by decide +kernel) rfl
theorem w_2046 : Cond.code yX13_stands cX13_stands 2 (some .int) ∈ tblG := tg (i := 2046) (by decide +kernel) rfl
theorem w_2047 : Cond.methodLink RX13 430 yX13_isStanding ∈ tblG := tg (i := 2047) (by decide +kernel) rfl
theorem w_2049 : Cond.instanceMethod yX13_isStanding ∈ tblG := tg (i := 2049) (by decide +kernel) rfl
theorem w_2050 : Cond.code yX13_isStanding cX13_isStanding 2 (some .boolean) ∈ tblG := tg (i := 2050) (by decide +kernel) rfl
theorem w_2051 : Cond.methodLink RX13 349 yX13_at ∈ tblG := tg (i := 2051) (by decide +kernel) rfl
theorem w_2052 : Cond.static yX13_at ∈ tblG := tg (i := 2052) (by decide +kernel) rfl
theorem w_2053 : Cond.code yX13_at cX13_at 3 (some .int) ∈ tblG := tg (i := 2053) (by decide +kernel) rfl
theorem w_2054 : Cond.constantLong RX13 342 (15 : Int64) ∈ tblG := tg (i := 2054) (by decide +kernel) rfl
theorem w_2055 : Cond.methodLink "HandKnotLaw" 66 yX13_place ∈ tblG := tg (i := 2055) (by decide +kernel) rfl
theorem w_2056 : Cond.instanceMethod yX13_place ∈ tblG := tg (i := 2056) (by decide +kernel) rfl
theorem w_2057 : Cond.selects RX13 yX13_place yX13_place ∈ tblG := tg (i := 2057) (by decide +kernel) rfl
theorem w_2058 : Cond.code yX13_place cX13_place 3 (some .int) ∈ tblG := tg (i := 2058) (by decide +kernel) rfl
theorem w_2059 : Cond.methodLink "HandKnotLaw" 70 yX13_sign ∈ tblG := tg (i := 2059) (by decide +kernel) rfl
theorem w_2060 : Cond.instanceMethod yX13_sign ∈ tblG := tg (i := 2060) (by decide +kernel) rfl
theorem w_2061 : Cond.selects RX13 yX13_sign yX13_sign ∈ tblG := tg (i := 2061) (by decide +kernel) rfl
theorem w_2062 : Cond.code yX13_sign cX13_sign 2 (some .int) ∈ tblG := tg (i := 2062) (by decide +kernel) rfl
theorem w_2063 : Cond.methodLink RX13 437 yX13_lost ∈ tblG := tg (i := 2063) (by decide +kernel) rfl
theorem w_2065 : Cond.instanceMethod yX13_lost ∈ tblG := tg (i := 2065) (by decide +kernel) rfl
theorem w_2066 : Cond.code yX13_lost cX13_lost 2 (some .int) ∈ tblG := tg (i := 2066) (by decide +kernel) rfl
theorem w_2067 : Cond.methodLink RX13 440 yX13_isLeft ∈ tblG := tg (i := 2067) (by decide +kernel) rfl
theorem w_2069 : Cond.instanceMethod yX13_isLeft ∈ tblG := tg (i := 2069) (by decide +kernel) rfl
theorem w_2070 : Cond.code yX13_isLeft cX13_isLeft 2 (some .boolean) ∈ tblG := tg (i := 2070) (by decide +kernel) rfl
theorem w_2071 : Cond.methodLink RX13 433 yX13_looks ∈ tblG := tg (i := 2071) (by decide +kernel) rfl
theorem w_2073 : Cond.instanceMethod yX13_looks ∈ tblG := tg (i := 2073) (by decide +kernel) rfl
theorem w_2074 : Cond.code yX13_looks cX13_looks 4 none ∈ tblG := tg (i := 2074) (by decide +kernel) rfl
theorem w_2075 : Cond.methodLink RX13 353 yX13_nextFrom ∈ tblG := tg (i := 2075) (by decide +kernel) rfl
theorem w_2077 : Cond.instanceMethod yX13_nextFrom ∈ tblG := tg (i := 2077) (by decide +kernel) rfl
theorem w_2078 : Cond.code yX13_nextFrom cX13_nextFrom 6 (some .int) ∈ tblG := tg (i := 2078) (by decide +kernel) rfl
theorem w_2079 : Cond.methodLink RX13 365 yX13_isOpen ∈ tblG := tg (i := 2079) (by decide +kernel) rfl
theorem w_2081 : Cond.instanceMethod yX13_isOpen ∈ tblG := tg (i := 2081) (by decide +kernel) rfl
theorem w_2082 : Cond.code yX13_isOpen cX13_isOpen 4 (some .boolean) ∈ tblG := tg (i := 2082) (by decide +kernel) rfl
theorem w_2083 : Cond.methodLink RX13 377 yX13_signNow ∈ tblG := tg (i := 2083) (by decide +kernel) rfl
theorem w_2085 : Cond.instanceMethod yX13_signNow ∈ tblG := tg (i := 2085) (by decide +kernel) rfl
theorem w_2086 : Cond.code yX13_signNow cX13_signNow 2 (some .int) ∈ tblG := tg (i := 2086) (by decide +kernel) rfl
theorem w_2087 : Cond.methodLink RX13 339 yX12_signOf ∈ tblG := tg (i := 2087) (by decide +kernel) rfl
theorem w_2088 : Cond.instanceMethod yX12_signOf ∈ tblG := tg (i := 2088) (by decide +kernel) rfl
theorem w_2089 : Cond.selects RX12 yX12_signOf yX12_signOf ∈ tblG := tg (i := 2089) (by decide +kernel) rfl
theorem w_2090 : Cond.code yX12_signOf cX12_signOf 3 (some .int) ∈ tblG := tg (i := 2090) (by decide +kernel) rfl
theorem w_2091 : Cond.methodLink "HandKnotLaw" 74 yX13_left ∈ tblG := tg (i := 2091) (by decide +kernel) rfl
theorem w_2092 : Cond.instanceMethod yX13_left ∈ tblG := tg (i := 2092) (by decide +kernel) rfl
theorem w_2093 : Cond.selects RX13 yX13_left yX13_left ∈ tblG := tg (i := 2093) (by decide +kernel) rfl
theorem w_2094 : Cond.code yX13_left cX13_left 1 (some .int) ∈ tblG := tg (i := 2094) (by decide +kernel) rfl
theorem w_2095 : Cond.methodLink RX13 443 yX13_leftIn ∈ tblG := tg (i := 2095) (by decide +kernel) rfl
theorem w_2097 : Cond.instanceMethod yX13_leftIn ∈ tblG := tg (i := 2097) (by decide +kernel) rfl
theorem w_2098 : Cond.code yX13_leftIn cX13_leftIn 5 (some .int) ∈ tblG := tg (i := 2098) (by decide +kernel) rfl
theorem w_2099 : Cond.methodLink "HandKnotLaw" 78 yX13_loose ∈ tblG := tg (i := 2099) (by decide +kernel) rfl
theorem w_2100 : Cond.instanceMethod yX13_loose ∈ tblG := tg (i := 2100) (by decide +kernel) rfl
theorem w_2101 : Cond.selects RX13 yX13_loose yX13_loose ∈ tblG := tg (i := 2101) (by decide +kernel) rfl
theorem w_2102 : Cond.code yX13_loose cX13_loose 1 (some .int) ∈ tblG := tg (i := 2102) (by decide +kernel) rfl
theorem w_2103 : Cond.methodLink "HandKnotLaw" 82 yX13_may ∈ tblG := tg (i := 2103) (by decide +kernel) rfl
theorem w_2104 : Cond.instanceMethod yX13_may ∈ tblG := tg (i := 2104) (by decide +kernel) rfl
theorem w_2105 : Cond.selects RX13 yX13_may yX13_may ∈ tblG := tg (i := 2105) (by decide +kernel) rfl
theorem w_2106 : Cond.code yX13_may cX13_may 2 (some .int) ∈ tblG := tg (i := 2106) (by decide +kernel) rfl
theorem w_2107 : Cond.methodLink RX13 397 yX13_isMove ∈ tblG := tg (i := 2107) (by decide +kernel) rfl
theorem w_2109 : Cond.instanceMethod yX13_isMove ∈ tblG := tg (i := 2109) (by decide +kernel) rfl
theorem w_2110 : Cond.code yX13_isMove cX13_isMove 5 (some .boolean) ∈ tblG := tg (i := 2110) (by decide +kernel) rfl
theorem w_2111 : Cond.methodLink RX13 371 yX13_kindOf ∈ tblG := tg (i := 2111) (by decide +kernel) rfl
theorem w_2112 : Cond.static yX13_kindOf ∈ tblG := tg (i := 2112) (by decide +kernel) rfl
theorem w_2113 : Cond.code yX13_kindOf cX13_kindOf 1 (some .int) ∈ tblG := tg (i := 2113) (by decide +kernel) rfl
theorem w_2114 : Cond.methodLink RX13 403 yX13_mayMove ∈ tblG := tg (i := 2114) (by decide +kernel) rfl
theorem w_2116 : Cond.instanceMethod yX13_mayMove ∈ tblG := tg (i := 2116) (by decide +kernel) rfl
theorem w_2117 : Cond.code yX13_mayMove cX13_mayMove 3 (some .boolean) ∈ tblG := tg (i := 2117) (by decide +kernel) rfl
theorem w_2118 : Cond.methodLink RX13 380 yX13_can ∈ tblG := tg (i := 2118) (by decide +kernel) rfl
theorem w_2120 : Cond.instanceMethod yX13_can ∈ tblG := tg (i := 2120) (by decide +kernel) rfl
theorem w_2121 : Cond.code yX13_can cX13_can 5 (some .boolean) ∈ tblG := tg (i := 2121) (by decide +kernel) rfl
theorem w_2122 : Cond.methodLink RX13 374 yX13_areBeside ∈ tblG := tg (i := 2122) (by decide +kernel) rfl
theorem w_2124 : Cond.instanceMethod yX13_areBeside ∈ tblG := tg (i := 2124) (by decide +kernel) rfl
theorem w_2125 : Cond.code yX13_areBeside cX13_areBeside 5 (some .boolean) ∈ tblG := tg (i := 2125) (by decide +kernel) rfl
theorem w_2126 : Cond.methodLink RX13 383 yX13_goerOf ∈ tblG := tg (i := 2126) (by decide +kernel) rfl
theorem w_2128 : Cond.instanceMethod yX13_goerOf ∈ tblG := tg (i := 2128) (by decide +kernel) rfl
theorem w_2129 : Cond.code yX13_goerOf cX13_goerOf 7 (some .int) ∈ tblG := tg (i := 2129) (by decide +kernel) rfl
theorem w_2130 : Cond.methodLink "HandKnotLaw" 86 yX13_goer ∈ tblG := tg (i := 2130) (by decide +kernel) rfl
theorem w_2131 : Cond.instanceMethod yX13_goer ∈ tblG := tg (i := 2131) (by decide +kernel) rfl
theorem w_2132 : Cond.selects RX13 yX13_goer yX13_goer ∈ tblG := tg (i := 2132) (by decide +kernel) rfl
theorem w_2133 : Cond.code yX13_goer cX13_goer 2 (some .int) ∈ tblG := tg (i := 2133) (by decide +kernel) rfl
theorem w_2134 : Cond.methodLink "HandKnotLaw" 90 yX13_moves ∈ tblG := tg (i := 2134) (by decide +kernel) rfl
theorem w_2135 : Cond.instanceMethod yX13_moves ∈ tblG := tg (i := 2135) (by decide +kernel) rfl
theorem w_2136 : Cond.selects RX13 yX13_moves yX13_moves ∈ tblG := tg (i := 2136) (by decide +kernel) rfl
theorem w_2137 : Cond.code yX13_moves cX13_moves 3 (some .int) ∈ tblG := tg (i := 2137) (by decide +kernel) rfl
theorem w_2138 : Cond.methodLink RX13 446 yX13_nextMay ∈ tblG := tg (i := 2138) (by decide +kernel) rfl
theorem w_2140 : Cond.instanceMethod yX13_nextMay ∈ tblG := tg (i := 2140) (by decide +kernel) rfl
theorem w_2141 : Cond.code yX13_nextMay cX13_nextMay 3 (some .int) ∈ tblG := tg (i := 2141) (by decide +kernel) rfl
theorem w_2142 : Cond.methodLink RX13 400 yX13_nextMove ∈ tblG := tg (i := 2142) (by decide +kernel) rfl
theorem w_2144 : Cond.instanceMethod yX13_nextMove ∈ tblG := tg (i := 2144) (by decide +kernel) rfl
theorem w_2145 : Cond.code yX13_nextMove cX13_nextMove 3 (some .int) ∈ tblG := tg (i := 2145) (by decide +kernel) rfl
theorem w_2146 : Cond.methodLink "HandKnotLaw" 94 yX13_moveAt ∈ tblG := tg (i := 2146) (by decide +kernel) rfl
theorem w_2147 : Cond.instanceMethod yX13_moveAt ∈ tblG := tg (i := 2147) (by decide +kernel) rfl
theorem w_2148 : Cond.selects RX13 yX13_moveAt yX13_moveAt ∈ tblG := tg (i := 2148) (by decide +kernel) rfl
theorem w_2149 : Cond.code yX13_moveAt cX13_moveAt 4 (some .int) ∈ tblG := tg (i := 2149) (by decide +kernel) rfl
theorem w_2150 : Cond.methodLink "HandKnotLaw" 98 yX13_fewest ∈ tblG := tg (i := 2150) (by decide +kernel) rfl
theorem w_2151 : Cond.instanceMethod yX13_fewest ∈ tblG := tg (i := 2151) (by decide +kernel) rfl
theorem w_2152 : Cond.selects RX13 yX13_fewest yX13_fewest ∈ tblG := tg (i := 2152) (by decide +kernel) rfl
theorem w_2153 : Cond.code yX13_fewest cX13_fewest 3 (some .int) ∈ tblG := tg (i := 2153) (by decide +kernel) rfl
theorem w_2154 : Cond.methodLink RX13 466 yX13_fewestFrom ∈ tblG := tg (i := 2154) (by decide +kernel) rfl
theorem w_2156 : Cond.instanceMethod yX13_fewestFrom ∈ tblG := tg (i := 2156) (by decide +kernel) rfl
theorem w_2157 : Cond.code yX13_fewestFrom cX13_fewestFrom 8 (some .int) ∈ tblG := tg (i := 2157) (by decide +kernel) rfl
theorem w_2158 : Cond.methodLink RX13 456 yX13_comes ∈ tblG := tg (i := 2158) (by decide +kernel) rfl
theorem w_2160 : Cond.instanceMethod yX13_comes ∈ tblG := tg (i := 2160) (by decide +kernel) rfl
theorem w_2161 : Cond.code yX13_comes cX13_comes 6 (some .boolean) ∈ tblG := tg (i := 2161) (by decide +kernel) rfl
theorem w_2162 : Cond.constantLong RX13 449 (1152921504606846976 : Int64) ∈ tblG := tg (i := 2162) (by decide +kernel) rfl
theorem w_2163 : Cond.constantLong RX13 451 (-7046029254386353131 : Int64) ∈ tblG := tg (i := 2163) (by decide +kernel) rfl
theorem w_2164 : Cond.methodLink RX13 460 yX13_goesOnFrom ∈ tblG := tg (i := 2164) (by decide +kernel) rfl
theorem w_2166 : Cond.instanceMethod yX13_goesOnFrom ∈ tblG := tg (i := 2166) (by decide +kernel) rfl
theorem w_2167 : Cond.code yX13_goesOnFrom cX13_goesOnFrom 4 (some .boolean) ∈ tblG := tg (i := 2167) (by decide +kernel) rfl
theorem w_2168 : Cond.methodLink RX13 463 yX13_behind ∈ tblG := tg (i := 2168) (by decide +kernel) rfl
theorem w_2170 : Cond.instanceMethod yX13_behind ∈ tblG := tg (i := 2170) (by decide +kernel) rfl
theorem w_2171 : Cond.code yX13_behind cX13_behind 7 (some .long) ∈ tblG := tg (i := 2171) (by decide +kernel) rfl
theorem w_2172 : Cond.methodLink RX13 386 yX13_without ∈ tblG := tg (i := 2172) (by decide +kernel) rfl
theorem w_2174 : Cond.instanceMethod yX13_without ∈ tblG := tg (i := 2174) (by decide +kernel) rfl
theorem w_2175 : Cond.code yX13_without cX13_without 4 (some .long) ∈ tblG := tg (i := 2175) (by decide +kernel) rfl
theorem w_2176 : Cond.methodLink RX13 394 yX13_with ∈ tblG := tg (i := 2176) (by decide +kernel) rfl
theorem w_2177 : Cond.static yX13_with ∈ tblG := tg (i := 2177) (by decide +kernel) rfl
theorem w_2178 : Cond.code yX13_with cX13_with 4 (some .long) ∈ tblG := tg (i := 2178) (by decide +kernel) rfl
theorem w_2179 : Cond.constantLong RX13 344 (-1 : Int64) ∈ tblG := tg (i := 2179) (by decide +kernel) rfl
theorem w_2180 : Cond.methodLink RX13 390 yX13_changed ∈ tblG := tg (i := 2180) (by decide +kernel) rfl
theorem w_2182 : Cond.instanceMethod yX13_changed ∈ tblG := tg (i := 2182) (by decide +kernel) rfl
theorem w_2183 : Cond.code yX13_changed cX13_changed 5 (some .long) ∈ tblG := tg (i := 2183) (by decide +kernel) rfl
theorem w_2184 : Cond.methodLink "HandKnotLaw" 102 yX13_next ∈ tblG := tg (i := 2184) (by decide +kernel) rfl
theorem w_2185 : Cond.instanceMethod yX13_next ∈ tblG := tg (i := 2185) (by decide +kernel) rfl
theorem w_2186 : Cond.selects RX13 yX13_next yX13_next ∈ tblG := tg (i := 2186) (by decide +kernel) rfl
theorem w_2187 : Cond.code yX13_next cX13_next 4 (some .int) ∈ tblG := tg (i := 2187) (by decide +kernel) rfl
theorem w_2188 : Cond.methodLink "HandKnotLaw" 106 yX13_caller ∈ tblG := tg (i := 2188) (by decide +kernel) rfl
theorem w_2189 : Cond.instanceMethod yX13_caller ∈ tblG := tg (i := 2189) (by decide +kernel) rfl
theorem w_2190 : Cond.selects RX13 yX13_caller yX13_caller ∈ tblG := tg (i := 2190) (by decide +kernel) rfl
theorem w_2191 : Cond.code yX13_caller cX13_caller 1 (some .int) ∈ tblG := tg (i := 2191) (by decide +kernel) rfl
theorem w_2192 : Cond.methodLink RX13 472 yX13_callerNow ∈ tblG := tg (i := 2192) (by decide +kernel) rfl
theorem w_2194 : Cond.instanceMethod yX13_callerNow ∈ tblG := tg (i := 2194) (by decide +kernel) rfl
theorem w_2195 : Cond.code yX13_callerNow cX13_callerNow 5 (some .int) ∈ tblG := tg (i := 2195) (by decide +kernel) rfl
theorem w_2196 : Cond.methodLink RX13 469 yX13_leastBehind ∈ tblG := tg (i := 2196) (by decide +kernel) rfl
theorem w_2198 : Cond.instanceMethod yX13_leastBehind ∈ tblG := tg (i := 2198) (by decide +kernel) rfl
theorem w_2199 : Cond.code yX13_leastBehind cX13_leastBehind 6 (some .int) ∈ tblG := tg (i := 2199) (by decide +kernel) rfl
theorem w_2200 : Cond.methodLink "HandKnotLaw" 110 yX13_hang ∈ tblG := tg (i := 2200) (by decide +kernel) rfl
theorem w_2201 : Cond.instanceMethod yX13_hang ∈ tblG := tg (i := 2201) (by decide +kernel) rfl
theorem w_2202 : Cond.selects RX13 yX13_hang yX13_hang ∈ tblG := tg (i := 2202) (by decide +kernel) rfl
theorem w_2203 : Cond.code yX13_hang cX13_hang 3 (some .int) ∈ tblG := tg (i := 2203) (by decide +kernel) rfl
theorem w_2204 : Cond.methodLink RX13 475 yX13_hangNow ∈ tblG := tg (i := 2204) (by decide +kernel) rfl
theorem w_2206 : Cond.instanceMethod yX13_hangNow ∈ tblG := tg (i := 2206) (by decide +kernel) rfl
theorem w_2207 : Cond.code yX13_hangNow cX13_hangNow 7 (some .int) ∈ tblG := tg (i := 2207) (by decide +kernel) rfl
theorem w_2208 : Cond.methodLink "HandKnotLaw" 114 yX13_colours ∈ tblG := tg (i := 2208) (by decide +kernel) rfl
theorem w_2209 : Cond.instanceMethod yX13_colours ∈ tblG := tg (i := 2209) (by decide +kernel) rfl
theorem w_2210 : Cond.selects RX13 yX13_colours yX13_colours ∈ tblG := tg (i := 2210) (by decide +kernel) rfl
theorem w_2211 : Cond.code yX13_colours cX13_colours 2 (some .int) ∈ tblG := tg (i := 2211) (by decide +kernel) rfl
theorem w_2212 : Cond.methodLink RX13 495 yX13_coloursNow ∈ tblG := tg (i := 2212) (by decide +kernel) rfl
theorem w_2214 : Cond.instanceMethod yX13_coloursNow ∈ tblG := tg (i := 2214) (by decide +kernel) rfl
theorem w_2215 : Cond.code yX13_coloursNow cX13_coloursNow 9 (some .int) ∈ tblG := tg (i := 2215) (by decide +kernel) rfl
theorem w_2216 : Cond.methodLink RX13 485 yX13_laysArcs ∈ tblG := tg (i := 2216) (by decide +kernel) rfl
theorem w_2218 : Cond.instanceMethod yX13_laysArcs ∈ tblG := tg (i := 2218) (by decide +kernel) rfl
theorem w_2219 : Cond.code yX13_laysArcs cX13_laysArcs 7 none ∈ tblG := tg (i := 2219) (by decide +kernel) rfl
theorem w_2220 : Cond.methodLink RX13 481 yX13_laysArcsOf ∈ tblG := tg (i := 2220) (by decide +kernel) rfl
theorem w_2222 : Cond.instanceMethod yX13_laysArcsOf ∈ tblG := tg (i := 2222) (by decide +kernel) rfl
theorem w_2223 : Cond.code yX13_laysArcsOf cX13_laysArcsOf 8 none ∈ tblG := tg (i := 2223) (by decide +kernel) rfl
theorem w_2224 : Cond.methodLink RX13 488 yX13_adds ∈ tblG := tg (i := 2224) (by decide +kernel) rfl
theorem w_2226 : Cond.instanceMethod yX13_adds ∈ tblG := tg (i := 2226) (by decide +kernel) rfl
theorem w_2227 : Cond.code yX13_adds cX13_adds 5 none ∈ tblG := tg (i := 2227) (by decide +kernel) rfl
theorem w_2228 : Cond.methodLink RX13 492 yX13_turned ∈ tblG := tg (i := 2228) (by decide +kernel) rfl
theorem w_2229 : Cond.static yX13_turned ∈ tblG := tg (i := 2229) (by decide +kernel) rfl
theorem w_2230 : Cond.code yX13_turned cX13_turned 3 (some .int) ∈ tblG := tg (i := 2230) (by decide +kernel) rfl
theorem w_2231 : Cond.methodLink "HandKnotLaw" 118 yX13_cannot ∈ tblG := tg (i := 2231) (by decide +kernel) rfl
theorem w_2232 : Cond.instanceMethod yX13_cannot ∈ tblG := tg (i := 2232) (by decide +kernel) rfl
theorem w_2233 : Cond.selects RX13 yX13_cannot yX13_cannot ∈ tblG := tg (i := 2233) (by decide +kernel) rfl
theorem w_2234 : Cond.code yX13_cannot cX13_cannot 4 (some .int) ∈ tblG := tg (i := 2234) (by decide +kernel) rfl
theorem w_2235 : Cond.methodLink "HandKnotLaw" 122 yX13_part ∈ tblG := tg (i := 2235) (by decide +kernel) rfl
theorem w_2236 : Cond.instanceMethod yX13_part ∈ tblG := tg (i := 2236) (by decide +kernel) rfl
theorem w_2237 : Cond.selects RX13 yX13_part yX13_part ∈ tblG := tg (i := 2237) (by decide +kernel) rfl
theorem w_2238 : Cond.code yX13_part cX13_part 9 (some .int) ∈ tblG := tg (i := 2238) (by decide +kernel) rfl
theorem w_2239 : Cond.methodLink RX13 498 yX13_partedFrom ∈ tblG := tg (i := 2239) (by decide +kernel) rfl
theorem w_2241 : Cond.instanceMethod yX13_partedFrom ∈ tblG := tg (i := 2241) (by decide +kernel) rfl
theorem w_2242 : Cond.code yX13_partedFrom cX13_partedFrom 7 (some .long) ∈ tblG := tg (i := 2242) (by decide +kernel) rfl
theorem w_2243 : Cond.methodLink "HandKnotLaw" 126 yX13_lift ∈ tblG := tg (i := 2243) (by decide +kernel) rfl
theorem w_2244 : Cond.instanceMethod yX13_lift ∈ tblG := tg (i := 2244) (by decide +kernel) rfl
theorem w_2245 : Cond.selects RX13 yX13_lift yX13_lift ∈ tblG := tg (i := 2245) (by decide +kernel) rfl
theorem w_2246 : Cond.code yX13_lift cX13_lift 9 (some .int) ∈ tblG := tg (i := 2246) (by decide +kernel) rfl
theorem w_2247 : Cond.methodLink RX13 501 yX13_liftedFrom ∈ tblG := tg (i := 2247) (by decide +kernel) rfl
theorem w_2249 : Cond.instanceMethod yX13_liftedFrom ∈ tblG := tg (i := 2249) (by decide +kernel) rfl
theorem w_2250 : Cond.code yX13_liftedFrom cX13_liftedFrom 4 (some .long) ∈ tblG := tg (i := 2250) (by decide +kernel) rfl
theorem w_2251 : Cond.methodLink "HandKnotLaw" 186 yX13_lifts ∈ tblG := tg (i := 2251) (by decide +kernel) rfl
theorem w_2252 : Cond.instanceMethod yX13_lifts ∈ tblG := tg (i := 2252) (by decide +kernel) rfl
theorem w_2253 : Cond.selects RX13 yX13_lifts yX13_lifts ∈ tblG := tg (i := 2253) (by decide +kernel) rfl
theorem w_2254 : Cond.code yX13_lifts cX13_lifts 2 (some .int) ∈ tblG := tg (i := 2254) (by decide +kernel) rfl
theorem w_2255 : Cond.methodLink RX13 504 yX13_isCrossing ∈ tblG := tg (i := 2255) (by decide +kernel) rfl
theorem w_2257 : Cond.instanceMethod yX13_isCrossing ∈ tblG := tg (i := 2257) (by decide +kernel) rfl
theorem w_2258 : Cond.code yX13_isCrossing cX13_isCrossing 2 (some .boolean) ∈ tblG := tg (i := 2258) (by decide +kernel) rfl
theorem w_2259 : Cond.methodLink RX13 507 yX13_keeps ∈ tblG := tg (i := 2259) (by decide +kernel) rfl
theorem w_2261 : Cond.instanceMethod yX13_keeps ∈ tblG := tg (i := 2261) (by decide +kernel) rfl
theorem w_2262 : Cond.code yX13_keeps cX13_keeps 2 none ∈ tblG := tg (i := 2262) (by decide +kernel) rfl
theorem w_2263 : Cond.methodLink "HandKnotLaw" 130 yX13_twist ∈ tblG := tg (i := 2263) (by decide +kernel) rfl
theorem w_2264 : Cond.instanceMethod yX13_twist ∈ tblG := tg (i := 2264) (by decide +kernel) rfl
theorem w_2265 : Cond.selects RX13 yX13_twist yX13_twist ∈ tblG := tg (i := 2265) (by decide +kernel) rfl
theorem w_2266 : Cond.code yX13_twist cX13_twist 4 (some .int) ∈ tblG := tg (i := 2266) (by decide +kernel) rfl
theorem w_2267 : Cond.methodLink "HandKnotLaw" 134 yX13_arcs ∈ tblG := tg (i := 2267) (by decide +kernel) rfl
theorem w_2268 : Cond.instanceMethod yX13_arcs ∈ tblG := tg (i := 2268) (by decide +kernel) rfl
theorem w_2269 : Cond.selects RX13 yX13_arcs yX13_arcs ∈ tblG := tg (i := 2269) (by decide +kernel) rfl
theorem w_2270 : Cond.code yX13_arcs cX13_arcs 1 (some .int) ∈ tblG := tg (i := 2270) (by decide +kernel) rfl
theorem w_2271 : Cond.methodLink "HandKnotLaw" 138 yX13_reached ∈ tblG := tg (i := 2271) (by decide +kernel) rfl
theorem w_2272 : Cond.instanceMethod yX13_reached ∈ tblG := tg (i := 2272) (by decide +kernel) rfl
theorem w_2273 : Cond.selects RX13 yX13_reached yX13_reached ∈ tblG := tg (i := 2273) (by decide +kernel) rfl
theorem w_2274 : Cond.code yX13_reached cX13_reached 2 (some .int) ∈ tblG := tg (i := 2274) (by decide +kernel) rfl
theorem w_2275 : Cond.methodLink RX13 510 yX13_comesAll ∈ tblG := tg (i := 2275) (by decide +kernel) rfl
theorem w_2277 : Cond.instanceMethod yX13_comesAll ∈ tblG := tg (i := 2277) (by decide +kernel) rfl
theorem w_2278 : Cond.code yX13_comesAll cX13_comesAll 6 (some .boolean) ∈ tblG := tg (i := 2278) (by decide +kernel) rfl
theorem w_2279 : Cond.methodLink "HandKnotLaw" 142 yX13_few ∈ tblG := tg (i := 2279) (by decide +kernel) rfl
theorem w_2280 : Cond.instanceMethod yX13_few ∈ tblG := tg (i := 2280) (by decide +kernel) rfl
theorem w_2281 : Cond.selects RX13 yX13_few yX13_few ∈ tblG := tg (i := 2281) (by decide +kernel) rfl
theorem w_2282 : Cond.code yX13_few cX13_few 4 (some .int) ∈ tblG := tg (i := 2282) (by decide +kernel) rfl
theorem w_2283 : Cond.methodLink "HandKnotLaw" 146 yX13_sees ∈ tblG := tg (i := 2283) (by decide +kernel) rfl
theorem w_2284 : Cond.instanceMethod yX13_sees ∈ tblG := tg (i := 2284) (by decide +kernel) rfl
theorem w_2285 : Cond.selects RX13 yX13_sees yX13_sees ∈ tblG := tg (i := 2285) (by decide +kernel) rfl
theorem w_2286 : Cond.code yX13_sees cX13_sees 2 (some .int) ∈ tblG := tg (i := 2286) (by decide +kernel) rfl
theorem w_2287 : Cond.methodLink RX13 513 yX13_seesIn ∈ tblG := tg (i := 2287) (by decide +kernel) rfl
theorem w_2289 : Cond.instanceMethod yX13_seesIn ∈ tblG := tg (i := 2289) (by decide +kernel) rfl
theorem w_2290 : Cond.code yX13_seesIn cX13_seesIn 7 (some .int) ∈ tblG := tg (i := 2290) (by decide +kernel) rfl
theorem w_2291 : Cond.methodLink "HandKnotLaw" 150 yX13_own ∈ tblG := tg (i := 2291) (by decide +kernel) rfl
theorem w_2292 : Cond.instanceMethod yX13_own ∈ tblG := tg (i := 2292) (by decide +kernel) rfl
theorem w_2293 : Cond.selects RX13 yX13_own yX13_own ∈ tblG := tg (i := 2293) (by decide +kernel) rfl
theorem w_2294 : Cond.code yX13_own cX13_own 2 (some .int) ∈ tblG := tg (i := 2294) (by decide +kernel) rfl
theorem w_2295 : Cond.methodLink RX13 519 yX13_ownIn ∈ tblG := tg (i := 2295) (by decide +kernel) rfl
theorem w_2297 : Cond.instanceMethod yX13_ownIn ∈ tblG := tg (i := 2297) (by decide +kernel) rfl
theorem w_2298 : Cond.code yX13_ownIn cX13_ownIn 9 (some .int) ∈ tblG := tg (i := 2298) (by decide +kernel) rfl
theorem w_2299 : Cond.methodLink RX13 516 yX13_crossingsOf ∈ tblG := tg (i := 2299) (by decide +kernel) rfl
theorem w_2300 : Cond.static yX13_crossingsOf ∈ tblG := tg (i := 2300) (by decide +kernel) rfl
theorem w_2301 : Cond.code yX13_crossingsOf cX13_crossingsOf 1 (some .int) ∈ tblG := tg (i := 2301) (by decide +kernel) rfl
theorem w_2302 : Cond.methodLink "HandKnotLaw" 154 yX13_rounds ∈ tblG := tg (i := 2302) (by decide +kernel) rfl
theorem w_2303 : Cond.instanceMethod yX13_rounds ∈ tblG := tg (i := 2303) (by decide +kernel) rfl
theorem w_2304 : Cond.selects RX13 yX13_rounds yX13_rounds ∈ tblG := tg (i := 2304) (by decide +kernel) rfl
theorem w_2305 : Cond.code yX13_rounds cX13_rounds 7 (some .int) ∈ tblG := tg (i := 2305) (by decide +kernel) rfl
theorem w_2306 : Cond.methodLink "HandKnotLaw" 159 yX13_tries ∈ tblG := tg (i := 2306) (by decide +kernel) rfl
theorem w_2307 : Cond.instanceMethod yX13_tries ∈ tblG := tg (i := 2307) (by decide +kernel) rfl
theorem w_2308 : Cond.selects RX13 yX13_tries yX13_tries ∈ tblG := tg (i := 2308) (by decide +kernel) rfl
theorem w_2309 : Cond.code yX13_tries cX13_tries 9 (some .int) ∈ tblG := tg (i := 2309) (by decide +kernel) rfl
theorem w_2310 : Cond.constant RX13 531 (65536 : Int32) ∈ tblG := tg (i := 2310) (by decide +kernel) rfl
theorem w_2311 : Cond.methodLink RX13 532 yX13_lotFrom ∈ tblG := tg (i := 2311) (by decide +kernel) rfl
theorem w_2313 : Cond.instanceMethod yX13_lotFrom ∈ tblG := tg (i := 2313) (by decide +kernel) rfl
theorem w_2314 : Cond.code yX13_lotFrom cX13_lotFrom 6 (some .long) ∈ tblG := tg (i := 2314) (by decide +kernel) rfl
theorem w_2315 : Cond.constantLong RX13 522 (75 : Int64) ∈ tblG := tg (i := 2315) (by decide +kernel) rfl
theorem w_2316 : Cond.constantLong RX13 527 (74 : Int64) ∈ tblG := tg (i := 2316) (by decide +kernel) rfl
theorem w_2317 : Cond.constantLong RX13 529 (65537 : Int64) ∈ tblG := tg (i := 2317) (by decide +kernel) rfl
theorem w_2318 : Cond.methodLink "HandKnotLaw" 164 yX13_ways ∈ tblG := tg (i := 2318) (by decide +kernel) rfl
theorem w_2319 : Cond.instanceMethod yX13_ways ∈ tblG := tg (i := 2319) (by decide +kernel) rfl
theorem w_2320 : Cond.selects RX13 yX13_ways yX13_ways ∈ tblG := tg (i := 2320) (by decide +kernel) rfl
theorem w_2321 : Cond.code yX13_ways cX13_ways 4 (some .long) ∈ tblG := tg (i := 2321) (by decide +kernel) rfl
theorem w_2322 : Cond.methodLink RX13 542 yX13_laysWays ∈ tblG := tg (i := 2322) (by decide +kernel) rfl
theorem w_2324 : Cond.instanceMethod yX13_laysWays ∈ tblG := tg (i := 2324) (by decide +kernel) rfl
theorem w_2325 : Cond.code yX13_laysWays cX13_laysWays 9 none ∈ tblG := tg (i := 2325) (by decide +kernel) rfl
theorem w_2326 : Cond.constantLong RX13 536 (2 : Int64) ∈ tblG := tg (i := 2326) (by decide +kernel) rfl
theorem w_2327 : Cond.methodLink RX13 538 yX13_chosen ∈ tblG := tg (i := 2327) (by decide +kernel) rfl
theorem w_2328 : Cond.static yX13_chosen ∈ tblG := tg (i := 2328) (by decide +kernel) rfl
theorem w_2329 : Cond.code yX13_chosen cX13_chosen 5 (some .long) ∈ tblG := tg (i := 2329) (by decide +kernel) rfl
theorem w_2330 : Cond.methodLink RX13 545 yX13_waysNow ∈ tblG := tg (i := 2330) (by decide +kernel) rfl
theorem w_2332 : Cond.instanceMethod yX13_waysNow ∈ tblG := tg (i := 2332) (by decide +kernel) rfl
theorem w_2333 : Cond.code yX13_waysNow cX13_waysNow 3 (some .long) ∈ tblG := tg (i := 2333) (by decide +kernel) rfl
theorem w_2334 : Cond.methodLink "HandKnotLaw" 169 yX13_odds ∈ tblG := tg (i := 2334) (by decide +kernel) rfl
theorem w_2335 : Cond.instanceMethod yX13_odds ∈ tblG := tg (i := 2335) (by decide +kernel) rfl
theorem w_2336 : Cond.selects RX13 yX13_odds yX13_odds ∈ tblG := tg (i := 2336) (by decide +kernel) rfl
theorem w_2337 : Cond.code yX13_odds cX13_odds 5 (some .long) ∈ tblG := tg (i := 2337) (by decide +kernel) rfl
theorem w_2338 : Cond.methodLink RX13 548 yX13_allWays ∈ tblG := tg (i := 2338) (by decide +kernel) rfl
theorem w_2340 : Cond.instanceMethod yX13_allWays ∈ tblG := tg (i := 2340) (by decide +kernel) rfl
theorem w_2341 : Cond.code yX13_allWays cX13_allWays 5 (some .long) ∈ tblG := tg (i := 2341) (by decide +kernel) rfl
theorem w_2342 : Cond.methodLink RX13 552 yX13_told ∈ tblG := tg (i := 2342) (by decide +kernel) rfl
theorem w_2344 : Cond.instanceMethod yX13_told ∈ tblG := tg (i := 2344) (by decide +kernel) rfl
theorem w_2345 : Cond.code yX13_told cX13_told 12 (some .long) ∈ tblG := tg (i := 2345) (by decide +kernel) rfl
theorem w_2346 : Cond.methodLink "HandKnotLaw" 174 yX13_mean ∈ tblG := tg (i := 2346) (by decide +kernel) rfl
theorem w_2347 : Cond.instanceMethod yX13_mean ∈ tblG := tg (i := 2347) (by decide +kernel) rfl
theorem w_2348 : Cond.selects RX13 yX13_mean yX13_mean ∈ tblG := tg (i := 2348) (by decide +kernel) rfl
theorem w_2349 : Cond.code yX13_mean cX13_mean 7 (some .long) ∈ tblG := tg (i := 2349) (by decide +kernel) rfl
theorem w_2350 : Cond.methodLink "HandKnotLaw" 178 yX13_move ∈ tblG := tg (i := 2350) (by decide +kernel) rfl
theorem w_2351 : Cond.instanceMethod yX13_move ∈ tblG := tg (i := 2351) (by decide +kernel) rfl
theorem w_2352 : Cond.selects RX13 yX13_move yX13_move ∈ tblG := tg (i := 2352) (by decide +kernel) rfl
theorem w_2353 : Cond.code yX13_move cX13_move 2 (some .int) ∈ tblG := tg (i := 2353) (by decide +kernel) rfl
theorem w_2354 : Cond.methodLink "HandKnotLaw" 182 yX13_parts ∈ tblG := tg (i := 2354) (by decide +kernel) rfl
theorem w_2355 : Cond.instanceMethod yX13_parts ∈ tblG := tg (i := 2355) (by decide +kernel) rfl
theorem w_2356 : Cond.selects RX13 yX13_parts yX13_parts ∈ tblG := tg (i := 2356) (by decide +kernel) rfl
theorem w_2357 : Cond.code yX13_parts cX13_parts 3 (some .int) ∈ tblG := tg (i := 2357) (by decide +kernel) rfl
theorem w_2358 : Cond.methodLink "HandKnotLaw" 190 yX13_lot ∈ tblG := tg (i := 2358) (by decide +kernel) rfl
theorem w_2359 : Cond.instanceMethod yX13_lot ∈ tblG := tg (i := 2359) (by decide +kernel) rfl
theorem w_2360 : Cond.selects RX13 yX13_lot yX13_lot ∈ tblG := tg (i := 2360) (by decide +kernel) rfl
theorem w_2361 : Cond.code yX13_lot cX13_lot 4 (some .int) ∈ tblG := tg (i := 2361) (by decide +kernel) rfl
theorem w_2362 : Cond.methodLink "HandKnotLaw" 194 yX13_call ∈ tblG := tg (i := 2362) (by decide +kernel) rfl
theorem w_2363 : Cond.instanceMethod yX13_call ∈ tblG := tg (i := 2363) (by decide +kernel) rfl
theorem w_2364 : Cond.selects RX13 yX13_call yX13_call ∈ tblG := tg (i := 2364) (by decide +kernel) rfl
theorem w_2365 : Cond.code yX13_call cX13_call 2 (some .int) ∈ tblG := tg (i := 2365) (by decide +kernel) rfl
theorem w_2366 : Cond.methodLink "HandKnotLaw" 199 yX13_seed ∈ tblG := tg (i := 2366) (by decide +kernel) rfl
theorem w_2367 : Cond.instanceMethod yX13_seed ∈ tblG := tg (i := 2367) (by decide +kernel) rfl
theorem w_2368 : Cond.selects RX13 yX13_seed yX13_seed ∈ tblG := tg (i := 2368) (by decide +kernel) rfl
theorem w_2369 : Cond.code yX13_seed cX13_seed 2 (some .boolean) ∈ tblG := tg (i := 2369) (by decide +kernel) rfl
theorem w_2370 : Cond.methodLink RX13 556 yX13_denied ∈ tblG := tg (i := 2370) (by decide +kernel) rfl
theorem w_2372 : Cond.instanceMethod yX13_denied ∈ tblG := tg (i := 2372) (by decide +kernel) rfl
theorem w_2373 : Cond.code yX13_denied cX13_denied 2 (some .boolean) ∈ tblG := tg (i := 2373) (by decide +kernel) rfl
theorem w_2374 : Cond.methodLink RX13 559 yX13_granted ∈ tblG := tg (i := 2374) (by decide +kernel) rfl
theorem w_2376 : Cond.instanceMethod yX13_granted ∈ tblG := tg (i := 2376) (by decide +kernel) rfl
theorem w_2377 : Cond.code yX13_granted cX13_granted 1 (some .boolean) ∈ tblG := tg (i := 2377) (by decide +kernel) rfl
theorem w_2378 : Cond.methodLink "HandKnotLaw" 204 yX13_undo ∈ tblG := tg (i := 2378) (by decide +kernel) rfl
theorem w_2379 : Cond.instanceMethod yX13_undo ∈ tblG := tg (i := 2379) (by decide +kernel) rfl
theorem w_2380 : Cond.selects RX13 yX13_undo yX13_undo ∈ tblG := tg (i := 2380) (by decide +kernel) rfl
theorem w_2381 : Cond.code yX13_undo cX13_undo 1 (some .boolean) ∈ tblG := tg (i := 2381) (by decide +kernel) rfl
theorem w_2382 : Cond.methodLink "HandKnotLaw" 208 yX13_mark ∈ tblG := tg (i := 2382) (by decide +kernel) rfl
theorem w_2383 : Cond.instanceMethod yX13_mark ∈ tblG := tg (i := 2383) (by decide +kernel) rfl
theorem w_2384 : Cond.selects RX13 yX13_mark yX13_mark ∈ tblG := tg (i := 2384) (by decide +kernel) rfl
theorem w_2385 : Cond.code yX13_mark cX13_mark 1 (some .int) ∈ tblG := tg (i := 2385) (by decide +kernel) rfl
theorem w_2386 : Cond.methodLink "HandKnotLaw" 212 yX13_back ∈ tblG := tg (i := 2386) (by decide +kernel) rfl
theorem w_2387 : Cond.instanceMethod yX13_back ∈ tblG := tg (i := 2387) (by decide +kernel) rfl
theorem w_2388 : Cond.selects RX13 yX13_back yX13_back ∈ tblG := tg (i := 2388) (by decide +kernel) rfl
theorem w_2389 : Cond.code yX13_back cX13_back 2 (some .boolean) ∈ tblG := tg (i := 2389) (by decide +kernel) rfl
theorem w_2390 : Cond.methodLink "HandKnotLaw" 218 yX13_led ∈ tblG := tg (i := 2390) (by decide +kernel) rfl
theorem w_2391 : Cond.instanceMethod yX13_led ∈ tblG := tg (i := 2391) (by decide +kernel) rfl
theorem w_2392 : Cond.selects RX13 yX13_led yX13_led ∈ tblG := tg (i := 2392) (by decide +kernel) rfl
theorem w_2393 : Cond.code yX13_led cX13_led 4 (some .int) ∈ tblG := tg (i := 2393) (by decide +kernel) rfl
theorem w_2394 : Cond.methodLink "HandKnotLaw" 225 yX13_size ∈ tblG := tg (i := 2394) (by decide +kernel) rfl
theorem w_2395 : Cond.instanceMethod yX13_size ∈ tblG := tg (i := 2395) (by decide +kernel) rfl
theorem w_2396 : Cond.selects RX13 yX13_size yX13_size ∈ tblG := tg (i := 2396) (by decide +kernel) rfl
theorem w_2397 : Cond.code yX13_size cX13_size 2 (some .int) ∈ tblG := tg (i := 2397) (by decide +kernel) rfl
theorem w_2398 : Cond.methodLink "HandKnotLaw" 229 yX13_trouble ∈ tblG := tg (i := 2398) (by decide +kernel) rfl
theorem w_2399 : Cond.instanceMethod yX13_trouble ∈ tblG := tg (i := 2399) (by decide +kernel) rfl
theorem w_2400 : Cond.selects RX13 yX13_trouble yX13_trouble ∈ tblG := tg (i := 2400) (by decide +kernel) rfl
theorem w_2401 : Cond.code yX13_trouble cX13_trouble 1 (some .int) ∈ tblG := tg (i := 2401) (by decide +kernel) rfl
theorem w_2420 : Cond.fieldLink "java/lang/String" 9 "java/lang/String" "value" "[B" ∈ tblG := tg (i := 2420) (by decide +kernel) rfl
theorem w_2421 : Cond.fieldLink "java/lang/String" 15 "java/lang/String" "coder" "B" ∈ tblG := tg (i := 2421) (by decide +kernel) rfl
theorem lk_X0_init : yX0_init.cls ≠ "java/lang/invoke/MethodHandle" ∧ yX0_init.cls ≠ "java/lang/invoke/VarHandle" ∧ (parseMethodDescriptor yX0_init.desc).map (fun d => d.parameters.length) = some 1 := by decide +kernel
theorem lk_X0_isNumber : yX0_isNumber.cls ≠ "java/lang/invoke/MethodHandle" ∧ yX0_isNumber.cls ≠ "java/lang/invoke/VarHandle" ∧ (parseMethodDescriptor yX0_isNumber.desc).map (fun d => d.parameters.length) = some 2 := by decide +kernel
theorem lk_X0_firstOf : yX0_firstOf.cls ≠ "java/lang/invoke/MethodHandle" ∧ yX0_firstOf.cls ≠ "java/lang/invoke/VarHandle" ∧ (parseMethodDescriptor yX0_firstOf.desc).map (fun d => d.parameters.length) = some 1 := by decide +kernel
theorem lk_X0_secondOf : yX0_secondOf.cls ≠ "java/lang/invoke/MethodHandle" ∧ yX0_secondOf.cls ≠ "java/lang/invoke/VarHandle" ∧ (parseMethodDescriptor yX0_secondOf.desc).map (fun d => d.parameters.length) = some 1 := by decide +kernel
theorem lk_X0_thirdOf : yX0_thirdOf.cls ≠ "java/lang/invoke/MethodHandle" ∧ yX0_thirdOf.cls ≠ "java/lang/invoke/VarHandle" ∧ (parseMethodDescriptor yX0_thirdOf.desc).map (fun d => d.parameters.length) = some 1 := by decide +kernel
theorem lk_X0_touchedBy : yX0_touchedBy.cls ≠ "java/lang/invoke/MethodHandle" ∧ yX0_touchedBy.cls ≠ "java/lang/invoke/VarHandle" ∧ (parseMethodDescriptor yX0_touchedBy.desc).map (fun d => d.parameters.length) = some 1 := by decide +kernel
theorem lk_X0_lay : yX0_lay.cls ≠ "java/lang/invoke/MethodHandle" ∧ yX0_lay.cls ≠ "java/lang/invoke/VarHandle" ∧ (parseMethodDescriptor yX0_lay.desc).map (fun d => d.parameters.length) = some 1 := by decide +kernel
theorem lk_X0_layOut : yX0_layOut.cls ≠ "java/lang/invoke/MethodHandle" ∧ yX0_layOut.cls ≠ "java/lang/invoke/VarHandle" ∧ (parseMethodDescriptor yX0_layOut.desc).map (fun d => d.parameters.length) = some 3 := by decide +kernel
theorem lk_X0_isOpen : yX0_isOpen.cls ≠ "java/lang/invoke/MethodHandle" ∧ yX0_isOpen.cls ≠ "java/lang/invoke/VarHandle" ∧ (parseMethodDescriptor yX0_isOpen.desc).map (fun d => d.parameters.length) = some 1 := by decide +kernel
theorem lk_X0_walkRound : yX0_walkRound.cls ≠ "java/lang/invoke/MethodHandle" ∧ yX0_walkRound.cls ≠ "java/lang/invoke/VarHandle" ∧ (parseMethodDescriptor yX0_walkRound.desc).map (fun d => d.parameters.length) = some 2 := by decide +kernel
theorem lk_X0_join : yX0_join.cls ≠ "java/lang/invoke/MethodHandle" ∧ yX0_join.cls ≠ "java/lang/invoke/VarHandle" ∧ (parseMethodDescriptor yX0_join.desc).map (fun d => d.parameters.length) = some 2 := by decide +kernel
theorem lk_X0_has : yX0_has.cls ≠ "java/lang/invoke/MethodHandle" ∧ yX0_has.cls ≠ "java/lang/invoke/VarHandle" ∧ (parseMethodDescriptor yX0_has.desc).map (fun d => d.parameters.length) = some 2 := by decide +kernel
theorem lk_X0_isLeft : yX0_isLeft.cls ≠ "java/lang/invoke/MethodHandle" ∧ yX0_isLeft.cls ≠ "java/lang/invoke/VarHandle" ∧ (parseMethodDescriptor yX0_isLeft.desc).map (fun d => d.parameters.length) = some 1 := by decide +kernel
theorem lk_X0_signOf : yX0_signOf.cls ≠ "java/lang/invoke/MethodHandle" ∧ yX0_signOf.cls ≠ "java/lang/invoke/VarHandle" ∧ (parseMethodDescriptor yX0_signOf.desc).map (fun d => d.parameters.length) = some 1 := by decide +kernel
theorem lk_X0_ringOfPass : yX0_ringOfPass.cls ≠ "java/lang/invoke/MethodHandle" ∧ yX0_ringOfPass.cls ≠ "java/lang/invoke/VarHandle" ∧ (parseMethodDescriptor yX0_ringOfPass.desc).map (fun d => d.parameters.length) = some 1 := by decide +kernel
theorem lk_X0_signsBetween : yX0_signsBetween.cls ≠ "java/lang/invoke/MethodHandle" ∧ yX0_signsBetween.cls ≠ "java/lang/invoke/VarHandle" ∧ (parseMethodDescriptor yX0_signsBetween.desc).map (fun d => d.parameters.length) = some 2 := by decide +kernel
theorem lk_X0_seenBy : yX0_seenBy.cls ≠ "java/lang/invoke/MethodHandle" ∧ yX0_seenBy.cls ≠ "java/lang/invoke/VarHandle" ∧ (parseMethodDescriptor yX0_seenBy.desc).map (fun d => d.parameters.length) = some 1 := by decide +kernel
theorem lk_X0_listTurn : yX0_listTurn.cls ≠ "java/lang/invoke/MethodHandle" ∧ yX0_listTurn.cls ≠ "java/lang/invoke/VarHandle" ∧ (parseMethodDescriptor yX0_listTurn.desc).map (fun d => d.parameters.length) = some 1 := by decide +kernel
theorem lk_X0_addNumber : yX0_addNumber.cls ≠ "java/lang/invoke/MethodHandle" ∧ yX0_addNumber.cls ≠ "java/lang/invoke/VarHandle" ∧ (parseMethodDescriptor yX0_addNumber.desc).map (fun d => d.parameters.length) = some 1 := by decide +kernel
theorem lk_X0_slipsWith : yX0_slipsWith.cls ≠ "java/lang/invoke/MethodHandle" ∧ yX0_slipsWith.cls ≠ "java/lang/invoke/VarHandle" ∧ (parseMethodDescriptor yX0_slipsWith.desc).map (fun d => d.parameters.length) = some 1 := by decide +kernel
theorem lk_X0_listSlips : yX0_listSlips.cls ≠ "java/lang/invoke/MethodHandle" ∧ yX0_listSlips.cls ≠ "java/lang/invoke/VarHandle" ∧ (parseMethodDescriptor yX0_listSlips.desc).map (fun d => d.parameters.length) = some 1 := by decide +kernel
theorem lk_X0_stepsWith : yX0_stepsWith.cls ≠ "java/lang/invoke/MethodHandle" ∧ yX0_stepsWith.cls ≠ "java/lang/invoke/VarHandle" ∧ (parseMethodDescriptor yX0_stepsWith.desc).map (fun d => d.parameters.length) = some 2 := by decide +kernel
theorem lk_X0_listSteps : yX0_listSteps.cls ≠ "java/lang/invoke/MethodHandle" ∧ yX0_listSteps.cls ≠ "java/lang/invoke/VarHandle" ∧ (parseMethodDescriptor yX0_listSteps.desc).map (fun d => d.parameters.length) = some 1 := by decide +kernel
theorem lk_X0_lowLink : yX0_lowLink.cls ≠ "java/lang/invoke/MethodHandle" ∧ yX0_lowLink.cls ≠ "java/lang/invoke/VarHandle" ∧ (parseMethodDescriptor yX0_lowLink.desc).map (fun d => d.parameters.length) = some 2 := by decide +kernel
theorem lk_X0_fits : yX0_fits.cls ≠ "java/lang/invoke/MethodHandle" ∧ yX0_fits.cls ≠ "java/lang/invoke/VarHandle" ∧ (parseMethodDescriptor yX0_fits.desc).map (fun d => d.parameters.length) = some 2 := by decide +kernel
theorem lk_X0_can : yX0_can.cls ≠ "java/lang/invoke/MethodHandle" ∧ yX0_can.cls ≠ "java/lang/invoke/VarHandle" ∧ (parseMethodDescriptor yX0_can.desc).map (fun d => d.parameters.length) = some 1 := by decide +kernel
theorem lk_X0_goerLink : yX0_goerLink.cls ≠ "java/lang/invoke/MethodHandle" ∧ yX0_goerLink.cls ≠ "java/lang/invoke/VarHandle" ∧ (parseMethodDescriptor yX0_goerLink.desc).map (fun d => d.parameters.length) = some 1 := by decide +kernel
theorem lk_X0_allows : yX0_allows.cls ≠ "java/lang/invoke/MethodHandle" ∧ yX0_allows.cls ≠ "java/lang/invoke/VarHandle" ∧ (parseMethodDescriptor yX0_allows.desc).map (fun d => d.parameters.length) = some 1 := by decide +kernel
theorem lk_X0_whoGoes : yX0_whoGoes.cls ≠ "java/lang/invoke/MethodHandle" ∧ yX0_whoGoes.cls ≠ "java/lang/invoke/VarHandle" ∧ (parseMethodDescriptor yX0_whoGoes.desc).map (fun d => d.parameters.length) = some 1 := by decide +kernel
theorem lk_X0_leftBehind : yX0_leftBehind.cls ≠ "java/lang/invoke/MethodHandle" ∧ yX0_leftBehind.cls ≠ "java/lang/invoke/VarHandle" ∧ (parseMethodDescriptor yX0_leftBehind.desc).map (fun d => d.parameters.length) = some 1 := by decide +kernel
theorem lk_X0_drawn : yX0_drawn.cls ≠ "java/lang/invoke/MethodHandle" ∧ yX0_drawn.cls ≠ "java/lang/invoke/VarHandle" ∧ (parseMethodDescriptor yX0_drawn.desc).map (fun d => d.parameters.length) = some 1 := by decide +kernel
theorem lk_X0_after : yX0_after.cls ≠ "java/lang/invoke/MethodHandle" ∧ yX0_after.cls ≠ "java/lang/invoke/VarHandle" ∧ (parseMethodDescriptor yX0_after.desc).map (fun d => d.parameters.length) = some 1 := by decide +kernel
theorem lk_X0_placesOf : yX0_placesOf.cls ≠ "java/lang/invoke/MethodHandle" ∧ yX0_placesOf.cls ≠ "java/lang/invoke/VarHandle" ∧ (parseMethodDescriptor yX0_placesOf.desc).map (fun d => d.parameters.length) = some 1 := by decide +kernel
theorem lk_X0_exchange : yX0_exchange.cls ≠ "java/lang/invoke/MethodHandle" ∧ yX0_exchange.cls ≠ "java/lang/invoke/VarHandle" ∧ (parseMethodDescriptor yX0_exchange.desc).map (fun d => d.parameters.length) = some 2 := by decide +kernel
theorem lk_X0_make : yX0_make.cls ≠ "java/lang/invoke/MethodHandle" ∧ yX0_make.cls ≠ "java/lang/invoke/VarHandle" ∧ (parseMethodDescriptor yX0_make.desc).map (fun d => d.parameters.length) = some 1 := by decide +kernel
theorem lk_X1_init : yX1_init.cls ≠ "java/lang/invoke/MethodHandle" ∧ yX1_init.cls ≠ "java/lang/invoke/VarHandle" ∧ (parseMethodDescriptor yX1_init.desc).map (fun d => d.parameters.length) = some 0 := by decide +kernel
theorem lk_X1_isCrowd : yX1_isCrowd.cls ≠ "java/lang/invoke/MethodHandle" ∧ yX1_isCrowd.cls ≠ "java/lang/invoke/VarHandle" ∧ (parseMethodDescriptor yX1_isCrowd.desc).map (fun d => d.parameters.length) = some 1 := by decide +kernel
theorem lk_X1_isRingCount : yX1_isRingCount.cls ≠ "java/lang/invoke/MethodHandle" ∧ yX1_isRingCount.cls ≠ "java/lang/invoke/VarHandle" ∧ (parseMethodDescriptor yX1_isRingCount.desc).map (fun d => d.parameters.length) = some 1 := by decide +kernel
theorem lk_X1_waysInto : yX1_waysInto.cls ≠ "java/lang/invoke/MethodHandle" ∧ yX1_waysInto.cls ≠ "java/lang/invoke/VarHandle" ∧ (parseMethodDescriptor yX1_waysInto.desc).map (fun d => d.parameters.length) = some 3 := by decide +kernel
theorem lk_X1_allWays : yX1_allWays.cls ≠ "java/lang/invoke/MethodHandle" ∧ yX1_allWays.cls ≠ "java/lang/invoke/VarHandle" ∧ (parseMethodDescriptor yX1_allWays.desc).map (fun d => d.parameters.length) = some 2 := by decide +kernel
theorem lk_X1_allRings : yX1_allRings.cls ≠ "java/lang/invoke/MethodHandle" ∧ yX1_allRings.cls ≠ "java/lang/invoke/VarHandle" ∧ (parseMethodDescriptor yX1_allRings.desc).map (fun d => d.parameters.length) = some 2 := by decide +kernel
theorem lk_X1_fill : yX1_fill.cls ≠ "java/lang/invoke/MethodHandle" ∧ yX1_fill.cls ≠ "java/lang/invoke/VarHandle" ∧ (parseMethodDescriptor yX1_fill.desc).map (fun d => d.parameters.length) = some 2 := by decide +kernel
theorem lk_X1_waysByFirstRing : yX1_waysByFirstRing.cls ≠ "java/lang/invoke/MethodHandle" ∧ yX1_waysByFirstRing.cls ≠ "java/lang/invoke/VarHandle" ∧ (parseMethodDescriptor yX1_waysByFirstRing.desc).map (fun d => d.parameters.length) = some 4 := by decide +kernel
theorem lk_X1_inLowestTerms : yX1_inLowestTerms.cls ≠ "java/lang/invoke/MethodHandle" ∧ yX1_inLowestTerms.cls ≠ "java/lang/invoke/VarHandle" ∧ (parseMethodDescriptor yX1_inLowestTerms.desc).map (fun d => d.parameters.length) = some 3 := by decide +kernel
theorem lk_X1_commonDivisor : yX1_commonDivisor.cls ≠ "java/lang/invoke/MethodHandle" ∧ yX1_commonDivisor.cls ≠ "java/lang/invoke/VarHandle" ∧ (parseMethodDescriptor yX1_commonDivisor.desc).map (fun d => d.parameters.length) = some 2 := by decide +kernel
theorem lk_X2_init : yX2_init.cls ≠ "java/lang/invoke/MethodHandle" ∧ yX2_init.cls ≠ "java/lang/invoke/VarHandle" ∧ (parseMethodDescriptor yX2_init.desc).map (fun d => d.parameters.length) = some 0 := by decide +kernel
theorem lk_X2_countArcs : yX2_countArcs.cls ≠ "java/lang/invoke/MethodHandle" ∧ yX2_countArcs.cls ≠ "java/lang/invoke/VarHandle" ∧ (parseMethodDescriptor yX2_countArcs.desc).map (fun d => d.parameters.length) = some 2 := by decide +kernel
theorem lk_X2_freeColours : yX2_freeColours.cls ≠ "java/lang/invoke/MethodHandle" ∧ yX2_freeColours.cls ≠ "java/lang/invoke/VarHandle" ∧ (parseMethodDescriptor yX2_freeColours.desc).map (fun d => d.parameters.length) = some 3 := by decide +kernel
theorem lk_X2_traceArcs : yX2_traceArcs.cls ≠ "java/lang/invoke/MethodHandle" ∧ yX2_traceArcs.cls ≠ "java/lang/invoke/VarHandle" ∧ (parseMethodDescriptor yX2_traceArcs.desc).map (fun d => d.parameters.length) = some 2 := by decide +kernel
theorem lk_X2_fillRow : yX2_fillRow.cls ≠ "java/lang/invoke/MethodHandle" ∧ yX2_fillRow.cls ≠ "java/lang/invoke/VarHandle" ∧ (parseMethodDescriptor yX2_fillRow.desc).map (fun d => d.parameters.length) = some 3 := by decide +kernel
theorem lk_X2_rank : yX2_rank.cls ≠ "java/lang/invoke/MethodHandle" ∧ yX2_rank.cls ≠ "java/lang/invoke/VarHandle" ∧ (parseMethodDescriptor yX2_rank.desc).map (fun d => d.parameters.length) = some 2 := by decide +kernel
theorem lk_X2_bringsUp : yX2_bringsUp.cls ≠ "java/lang/invoke/MethodHandle" ∧ yX2_bringsUp.cls ≠ "java/lang/invoke/VarHandle" ∧ (parseMethodDescriptor yX2_bringsUp.desc).map (fun d => d.parameters.length) = some 3 := by decide +kernel
theorem lk_X2_clearColumn : yX2_clearColumn.cls ≠ "java/lang/invoke/MethodHandle" ∧ yX2_clearColumn.cls ≠ "java/lang/invoke/VarHandle" ∧ (parseMethodDescriptor yX2_clearColumn.desc).map (fun d => d.parameters.length) = some 4 := by decide +kernel
theorem lk_X3_init : yX3_init.cls ≠ "java/lang/invoke/MethodHandle" ∧ yX3_init.cls ≠ "java/lang/invoke/VarHandle" ∧ (parseMethodDescriptor yX3_init.desc).map (fun d => d.parameters.length) = some 0 := by decide +kernel
theorem lk_X3_clear : yX3_clear.cls ≠ "java/lang/invoke/MethodHandle" ∧ yX3_clear.cls ≠ "java/lang/invoke/VarHandle" ∧ (parseMethodDescriptor yX3_clear.desc).map (fun d => d.parameters.length) = some 0 := by decide +kernel
theorem lk_X3_keep : yX3_keep.cls ≠ "java/lang/invoke/MethodHandle" ∧ yX3_keep.cls ≠ "java/lang/invoke/VarHandle" ∧ (parseMethodDescriptor yX3_keep.desc).map (fun d => d.parameters.length) = some 1 := by decide +kernel
theorem lk_X3_giveLatest : yX3_giveLatest.cls ≠ "java/lang/invoke/MethodHandle" ∧ yX3_giveLatest.cls ≠ "java/lang/invoke/VarHandle" ∧ (parseMethodDescriptor yX3_giveLatest.desc).map (fun d => d.parameters.length) = some 1 := by decide +kernel
theorem lk_X3_setMark : yX3_setMark.cls ≠ "java/lang/invoke/MethodHandle" ∧ yX3_setMark.cls ≠ "java/lang/invoke/VarHandle" ∧ (parseMethodDescriptor yX3_setMark.desc).map (fun d => d.parameters.length) = some 1 := by decide +kernel
theorem lk_X3_giveMarked : yX3_giveMarked.cls ≠ "java/lang/invoke/MethodHandle" ∧ yX3_giveMarked.cls ≠ "java/lang/invoke/VarHandle" ∧ (parseMethodDescriptor yX3_giveMarked.desc).map (fun d => d.parameters.length) = some 2 := by decide +kernel
theorem lk_X4_init : yX4_init.cls ≠ "java/lang/invoke/MethodHandle" ∧ yX4_init.cls ≠ "java/lang/invoke/VarHandle" ∧ (parseMethodDescriptor yX4_init.desc).map (fun d => d.parameters.length) = some 0 := by decide +kernel
theorem lk_X4_begin : yX4_begin.cls ≠ "java/lang/invoke/MethodHandle" ∧ yX4_begin.cls ≠ "java/lang/invoke/VarHandle" ∧ (parseMethodDescriptor yX4_begin.desc).map (fun d => d.parameters.length) = some 2 := by decide +kernel
theorem lk_X4_become : yX4_become.cls ≠ "java/lang/invoke/MethodHandle" ∧ yX4_become.cls ≠ "java/lang/invoke/VarHandle" ∧ (parseMethodDescriptor yX4_become.desc).map (fun d => d.parameters.length) = some 1 := by decide +kernel
theorem lk_X4_seedBehind : yX4_seedBehind.cls ≠ "java/lang/invoke/MethodHandle" ∧ yX4_seedBehind.cls ≠ "java/lang/invoke/VarHandle" ∧ (parseMethodDescriptor yX4_seedBehind.desc).map (fun d => d.parameters.length) = some 1 := by decide +kernel
theorem lk_X4_passAt : yX4_passAt.cls ≠ "java/lang/invoke/MethodHandle" ∧ yX4_passAt.cls ≠ "java/lang/invoke/VarHandle" ∧ (parseMethodDescriptor yX4_passAt.desc).map (fun d => d.parameters.length) = some 2 := by decide +kernel
theorem lk_X4_letGo : yX4_letGo.cls ≠ "java/lang/invoke/MethodHandle" ∧ yX4_letGo.cls ≠ "java/lang/invoke/VarHandle" ∧ (parseMethodDescriptor yX4_letGo.desc).map (fun d => d.parameters.length) = some 2 := by decide +kernel
theorem lk_X4_turnOver : yX4_turnOver.cls ≠ "java/lang/invoke/MethodHandle" ∧ yX4_turnOver.cls ≠ "java/lang/invoke/VarHandle" ∧ (parseMethodDescriptor yX4_turnOver.desc).map (fun d => d.parameters.length) = some 1 := by decide +kernel
theorem lk_X5_init : yX5_init.cls ≠ "java/lang/invoke/MethodHandle" ∧ yX5_init.cls ≠ "java/lang/invoke/VarHandle" ∧ (parseMethodDescriptor yX5_init.desc).map (fun d => d.parameters.length) = some 0 := by decide +kernel
theorem lk_X5_reads : yX5_reads.cls ≠ "java/lang/invoke/MethodHandle" ∧ yX5_reads.cls ≠ "java/lang/invoke/VarHandle" ∧ (parseMethodDescriptor yX5_reads.desc).map (fun d => d.parameters.length) = some 1 := by decide +kernel
theorem lk_X5_isFaulty : yX5_isFaulty.cls ≠ "java/lang/invoke/MethodHandle" ∧ yX5_isFaulty.cls ≠ "java/lang/invoke/VarHandle" ∧ (parseMethodDescriptor yX5_isFaulty.desc).map (fun d => d.parameters.length) = some 1 := by decide +kernel
theorem lk_X5_advance : yX5_advance.cls ≠ "java/lang/invoke/MethodHandle" ∧ yX5_advance.cls ≠ "java/lang/invoke/VarHandle" ∧ (parseMethodDescriptor yX5_advance.desc).map (fun d => d.parameters.length) = some 0 := by decide +kernel
theorem lk_X5_kind : yX5_kind.cls ≠ "java/lang/invoke/MethodHandle" ∧ yX5_kind.cls ≠ "java/lang/invoke/VarHandle" ∧ (parseMethodDescriptor yX5_kind.desc).map (fun d => d.parameters.length) = some 0 := by decide +kernel
theorem lk_X5_isWord : yX5_isWord.cls ≠ "java/lang/invoke/MethodHandle" ∧ yX5_isWord.cls ≠ "java/lang/invoke/VarHandle" ∧ (parseMethodDescriptor yX5_isWord.desc).map (fun d => d.parameters.length) = some 1 := by decide +kernel
theorem lk_X5_readsLine : yX5_readsLine.cls ≠ "java/lang/invoke/MethodHandle" ∧ yX5_readsLine.cls ≠ "java/lang/invoke/VarHandle" ∧ (parseMethodDescriptor yX5_readsLine.desc).map (fun d => d.parameters.length) = some 0 := by decide +kernel
theorem lk_X5_readsTangle : yX5_readsTangle.cls ≠ "java/lang/invoke/MethodHandle" ∧ yX5_readsTangle.cls ≠ "java/lang/invoke/VarHandle" ∧ (parseMethodDescriptor yX5_readsTangle.desc).map (fun d => d.parameters.length) = some 0 := by decide +kernel
theorem lk_X5_readsPerson : yX5_readsPerson.cls ≠ "java/lang/invoke/MethodHandle" ∧ yX5_readsPerson.cls ≠ "java/lang/invoke/VarHandle" ∧ (parseMethodDescriptor yX5_readsPerson.desc).map (fun d => d.parameters.length) = some 0 := by decide +kernel
theorem lk_X5_readsHold : yX5_readsHold.cls ≠ "java/lang/invoke/MethodHandle" ∧ yX5_readsHold.cls ≠ "java/lang/invoke/VarHandle" ∧ (parseMethodDescriptor yX5_readsHold.desc).map (fun d => d.parameters.length) = some 0 := by decide +kernel
theorem lk_X5_readsCross : yX5_readsCross.cls ≠ "java/lang/invoke/MethodHandle" ∧ yX5_readsCross.cls ≠ "java/lang/invoke/VarHandle" ∧ (parseMethodDescriptor yX5_readsCross.desc).map (fun d => d.parameters.length) = some 0 := by decide +kernel
theorem lk_X5_takesPass : yX5_takesPass.cls ≠ "java/lang/invoke/MethodHandle" ∧ yX5_takesPass.cls ≠ "java/lang/invoke/VarHandle" ∧ (parseMethodDescriptor yX5_takesPass.desc).map (fun d => d.parameters.length) = some 1 := by decide +kernel
theorem lk_X5_takesWord : yX5_takesWord.cls ≠ "java/lang/invoke/MethodHandle" ∧ yX5_takesWord.cls ≠ "java/lang/invoke/VarHandle" ∧ (parseMethodDescriptor yX5_takesWord.desc).map (fun d => d.parameters.length) = some 1 := by decide +kernel
theorem lk_X5_takesWhole : yX5_takesWhole.cls ≠ "java/lang/invoke/MethodHandle" ∧ yX5_takesWhole.cls ≠ "java/lang/invoke/VarHandle" ∧ (parseMethodDescriptor yX5_takesWhole.desc).map (fun d => d.parameters.length) = some 2 := by decide +kernel
theorem lk_X5_takesName : yX5_takesName.cls ≠ "java/lang/invoke/MethodHandle" ∧ yX5_takesName.cls ≠ "java/lang/invoke/VarHandle" ∧ (parseMethodDescriptor yX5_takesName.desc).map (fun d => d.parameters.length) = some 0 := by decide +kernel
theorem lk_X5_takesNewName : yX5_takesNewName.cls ≠ "java/lang/invoke/MethodHandle" ∧ yX5_takesNewName.cls ≠ "java/lang/invoke/VarHandle" ∧ (parseMethodDescriptor yX5_takesNewName.desc).map (fun d => d.parameters.length) = some 0 := by decide +kernel
theorem lk_X5_takesPerson : yX5_takesPerson.cls ≠ "java/lang/invoke/MethodHandle" ∧ yX5_takesPerson.cls ≠ "java/lang/invoke/VarHandle" ∧ (parseMethodDescriptor yX5_takesPerson.desc).map (fun d => d.parameters.length) = some 0 := by decide +kernel
theorem lk_X5_takesLink : yX5_takesLink.cls ≠ "java/lang/invoke/MethodHandle" ∧ yX5_takesLink.cls ≠ "java/lang/invoke/VarHandle" ∧ (parseMethodDescriptor yX5_takesLink.desc).map (fun d => d.parameters.length) = some 0 := by decide +kernel
theorem lk_X5_takesHand : yX5_takesHand.cls ≠ "java/lang/invoke/MethodHandle" ∧ yX5_takesHand.cls ≠ "java/lang/invoke/VarHandle" ∧ (parseMethodDescriptor yX5_takesHand.desc).map (fun d => d.parameters.length) = some 1 := by decide +kernel
theorem lk_X6_init : yX6_init.cls ≠ "java/lang/invoke/MethodHandle" ∧ yX6_init.cls ≠ "java/lang/invoke/VarHandle" ∧ (parseMethodDescriptor yX6_init.desc).map (fun d => d.parameters.length) = some 0 := by decide +kernel
theorem lk_X6_ringWith : yX6_ringWith.cls ≠ "java/lang/invoke/MethodHandle" ∧ yX6_ringWith.cls ≠ "java/lang/invoke/VarHandle" ∧ (parseMethodDescriptor yX6_ringWith.desc).map (fun d => d.parameters.length) = some 1 := by decide +kernel
theorem lk_X6_peopleIn : yX6_peopleIn.cls ≠ "java/lang/invoke/MethodHandle" ∧ yX6_peopleIn.cls ≠ "java/lang/invoke/VarHandle" ∧ (parseMethodDescriptor yX6_peopleIn.desc).map (fun d => d.parameters.length) = some 1 := by decide +kernel
theorem lk_X6_trace : yX6_trace.cls ≠ "java/lang/invoke/MethodHandle" ∧ yX6_trace.cls ≠ "java/lang/invoke/VarHandle" ∧ (parseMethodDescriptor yX6_trace.desc).map (fun d => d.parameters.length) = some 1 := by decide +kernel
theorem lk_X6_traceHands : yX6_traceHands.cls ≠ "java/lang/invoke/MethodHandle" ∧ yX6_traceHands.cls ≠ "java/lang/invoke/VarHandle" ∧ (parseMethodDescriptor yX6_traceHands.desc).map (fun d => d.parameters.length) = some 2 := by decide +kernel
theorem lk_X6_traceRing : yX6_traceRing.cls ≠ "java/lang/invoke/MethodHandle" ∧ yX6_traceRing.cls ≠ "java/lang/invoke/VarHandle" ∧ (parseMethodDescriptor yX6_traceRing.desc).map (fun d => d.parameters.length) = some 3 := by decide +kernel
theorem lk_X6_traceLink : yX6_traceLink.cls ≠ "java/lang/invoke/MethodHandle" ∧ yX6_traceLink.cls ≠ "java/lang/invoke/VarHandle" ∧ (parseMethodDescriptor yX6_traceLink.desc).map (fun d => d.parameters.length) = some 3 := by decide +kernel
theorem lk_X6_traceSigns : yX6_traceSigns.cls ≠ "java/lang/invoke/MethodHandle" ∧ yX6_traceSigns.cls ≠ "java/lang/invoke/VarHandle" ∧ (parseMethodDescriptor yX6_traceSigns.desc).map (fun d => d.parameters.length) = some 1 := by decide +kernel
theorem lk_X7_init : yX7_init.cls ≠ "java/lang/invoke/MethodHandle" ∧ yX7_init.cls ≠ "java/lang/invoke/VarHandle" ∧ (parseMethodDescriptor yX7_init.desc).map (fun d => d.parameters.length) = some 1 := by decide +kernel
theorem lk_X7_firstToLoose : yX7_firstToLoose.cls ≠ "java/lang/invoke/MethodHandle" ∧ yX7_firstToLoose.cls ≠ "java/lang/invoke/VarHandle" ∧ (parseMethodDescriptor yX7_firstToLoose.desc).map (fun d => d.parameters.length) = some 2 := by decide +kernel
theorem lk_X7_countReached : yX7_countReached.cls ≠ "java/lang/invoke/MethodHandle" ∧ yX7_countReached.cls ≠ "java/lang/invoke/VarHandle" ∧ (parseMethodDescriptor yX7_countReached.desc).map (fun d => d.parameters.length) = some 2 := by decide +kernel
theorem lk_X7_leastLeft : yX7_leastLeft.cls ≠ "java/lang/invoke/MethodHandle" ∧ yX7_leastLeft.cls ≠ "java/lang/invoke/VarHandle" ∧ (parseMethodDescriptor yX7_leastLeft.desc).map (fun d => d.parameters.length) = some 2 := by decide +kernel
theorem lk_X7_crossingsIn : yX7_crossingsIn.cls ≠ "java/lang/invoke/MethodHandle" ∧ yX7_crossingsIn.cls ≠ "java/lang/invoke/VarHandle" ∧ (parseMethodDescriptor yX7_crossingsIn.desc).map (fun d => d.parameters.length) = some 1 := by decide +kernel
theorem lk_X7_forget : yX7_forget.cls ≠ "java/lang/invoke/MethodHandle" ∧ yX7_forget.cls ≠ "java/lang/invoke/VarHandle" ∧ (parseMethodDescriptor yX7_forget.desc).map (fun d => d.parameters.length) = some 0 := by decide +kernel
theorem lk_X7_grow : yX7_grow.cls ≠ "java/lang/invoke/MethodHandle" ∧ yX7_grow.cls ≠ "java/lang/invoke/VarHandle" ∧ (parseMethodDescriptor yX7_grow.desc).map (fun d => d.parameters.length) = some 3 := by decide +kernel
theorem lk_X7_spreadFrom : yX7_spreadFrom.cls ≠ "java/lang/invoke/MethodHandle" ∧ yX7_spreadFrom.cls ≠ "java/lang/invoke/VarHandle" ∧ (parseMethodDescriptor yX7_spreadFrom.desc).map (fun d => d.parameters.length) = some 2 := by decide +kernel
theorem lk_X7_add : yX7_add.cls ≠ "java/lang/invoke/MethodHandle" ∧ yX7_add.cls ≠ "java/lang/invoke/VarHandle" ∧ (parseMethodDescriptor yX7_add.desc).map (fun d => d.parameters.length) = some 2 := by decide +kernel
theorem lk_X7_slotFor : yX7_slotFor.cls ≠ "java/lang/invoke/MethodHandle" ∧ yX7_slotFor.cls ≠ "java/lang/invoke/VarHandle" ∧ (parseMethodDescriptor yX7_slotFor.desc).map (fun d => d.parameters.length) = some 1 := by decide +kernel
theorem lk_X8_init : yX8_init.cls ≠ "java/lang/invoke/MethodHandle" ∧ yX8_init.cls ≠ "java/lang/invoke/VarHandle" ∧ (parseMethodDescriptor yX8_init.desc).map (fun d => d.parameters.length) = some 0 := by decide +kernel
theorem lk_X8_spelling : yX8_spelling.cls ≠ "java/lang/invoke/MethodHandle" ∧ yX8_spelling.cls ≠ "java/lang/invoke/VarHandle" ∧ (parseMethodDescriptor yX8_spelling.desc).map (fun d => d.parameters.length) = some 1 := by decide +kernel
theorem lk_X8_withLetter : yX8_withLetter.cls ≠ "java/lang/invoke/MethodHandle" ∧ yX8_withLetter.cls ≠ "java/lang/invoke/VarHandle" ∧ (parseMethodDescriptor yX8_withLetter.desc).map (fun d => d.parameters.length) = some 2 := by decide +kernel
theorem lk_X8_hasRoom : yX8_hasRoom.cls ≠ "java/lang/invoke/MethodHandle" ∧ yX8_hasRoom.cls ≠ "java/lang/invoke/VarHandle" ∧ (parseMethodDescriptor yX8_hasRoom.desc).map (fun d => d.parameters.length) = some 0 := by decide +kernel
theorem lk_X8_take : yX8_take.cls ≠ "java/lang/invoke/MethodHandle" ∧ yX8_take.cls ≠ "java/lang/invoke/VarHandle" ∧ (parseMethodDescriptor yX8_take.desc).map (fun d => d.parameters.length) = some 1 := by decide +kernel
theorem lk_X8_cut : yX8_cut.cls ≠ "java/lang/invoke/MethodHandle" ∧ yX8_cut.cls ≠ "java/lang/invoke/VarHandle" ∧ (parseMethodDescriptor yX8_cut.desc).map (fun d => d.parameters.length) = some 1 := by decide +kernel
theorem lk_X8_ends : yX8_ends.cls ≠ "java/lang/invoke/MethodHandle" ∧ yX8_ends.cls ≠ "java/lang/invoke/VarHandle" ∧ (parseMethodDescriptor yX8_ends.desc).map (fun d => d.parameters.length) = some 1 := by decide +kernel
theorem lk_X8_cutOne : yX8_cutOne.cls ≠ "java/lang/invoke/MethodHandle" ∧ yX8_cutOne.cls ≠ "java/lang/invoke/VarHandle" ∧ (parseMethodDescriptor yX8_cutOne.desc).map (fun d => d.parameters.length) = some 2 := by decide +kernel
theorem lk_X8_isLetter : yX8_isLetter.cls ≠ "java/lang/invoke/MethodHandle" ∧ yX8_isLetter.cls ≠ "java/lang/invoke/VarHandle" ∧ (parseMethodDescriptor yX8_isLetter.desc).map (fun d => d.parameters.length) = some 1 := by decide +kernel
theorem lk_X8_isFigure : yX8_isFigure.cls ≠ "java/lang/invoke/MethodHandle" ∧ yX8_isFigure.cls ≠ "java/lang/invoke/VarHandle" ∧ (parseMethodDescriptor yX8_isFigure.desc).map (fun d => d.parameters.length) = some 1 := by decide +kernel
theorem lk_X8_addWord : yX8_addWord.cls ≠ "java/lang/invoke/MethodHandle" ∧ yX8_addWord.cls ≠ "java/lang/invoke/VarHandle" ∧ (parseMethodDescriptor yX8_addWord.desc).map (fun d => d.parameters.length) = some 2 := by decide +kernel
theorem lk_X8_addWhole : yX8_addWhole.cls ≠ "java/lang/invoke/MethodHandle" ∧ yX8_addWhole.cls ≠ "java/lang/invoke/VarHandle" ∧ (parseMethodDescriptor yX8_addWhole.desc).map (fun d => d.parameters.length) = some 2 := by decide +kernel
theorem lk_X8_addToken : yX8_addToken.cls ≠ "java/lang/invoke/MethodHandle" ∧ yX8_addToken.cls ≠ "java/lang/invoke/VarHandle" ∧ (parseMethodDescriptor yX8_addToken.desc).map (fun d => d.parameters.length) = some 4 := by decide +kernel
theorem lk_X9_init : yX9_init.cls ≠ "java/lang/invoke/MethodHandle" ∧ yX9_init.cls ≠ "java/lang/invoke/VarHandle" ∧ (parseMethodDescriptor yX9_init.desc).map (fun d => d.parameters.length) = some 0 := by decide +kernel
theorem lk_X9_clear : yX9_clear.cls ≠ "java/lang/invoke/MethodHandle" ∧ yX9_clear.cls ≠ "java/lang/invoke/VarHandle" ∧ (parseMethodDescriptor yX9_clear.desc).map (fun d => d.parameters.length) = some 0 := by decide +kernel
theorem lk_X9_personNamed : yX9_personNamed.cls ≠ "java/lang/invoke/MethodHandle" ∧ yX9_personNamed.cls ≠ "java/lang/invoke/VarHandle" ∧ (parseMethodDescriptor yX9_personNamed.desc).map (fun d => d.parameters.length) = some 1 := by decide +kernel
theorem lk_X9_linkNamed : yX9_linkNamed.cls ≠ "java/lang/invoke/MethodHandle" ∧ yX9_linkNamed.cls ≠ "java/lang/invoke/VarHandle" ∧ (parseMethodDescriptor yX9_linkNamed.desc).map (fun d => d.parameters.length) = some 1 := by decide +kernel
theorem lk_X9_indexOf : yX9_indexOf.cls ≠ "java/lang/invoke/MethodHandle" ∧ yX9_indexOf.cls ≠ "java/lang/invoke/VarHandle" ∧ (parseMethodDescriptor yX9_indexOf.desc).map (fun d => d.parameters.length) = some 3 := by decide +kernel
theorem lk_X9_addPerson : yX9_addPerson.cls ≠ "java/lang/invoke/MethodHandle" ∧ yX9_addPerson.cls ≠ "java/lang/invoke/VarHandle" ∧ (parseMethodDescriptor yX9_addPerson.desc).map (fun d => d.parameters.length) = some 2 := by decide +kernel
theorem lk_X9_addLink : yX9_addLink.cls ≠ "java/lang/invoke/MethodHandle" ∧ yX9_addLink.cls ≠ "java/lang/invoke/VarHandle" ∧ (parseMethodDescriptor yX9_addLink.desc).map (fun d => d.parameters.length) = some 3 := by decide +kernel
theorem lk_X9_isHand : yX9_isHand.cls ≠ "java/lang/invoke/MethodHandle" ∧ yX9_isHand.cls ≠ "java/lang/invoke/VarHandle" ∧ (parseMethodDescriptor yX9_isHand.desc).map (fun d => d.parameters.length) = some 1 := by decide +kernel
theorem lk_X9_isHeld : yX9_isHeld.cls ≠ "java/lang/invoke/MethodHandle" ∧ yX9_isHeld.cls ≠ "java/lang/invoke/VarHandle" ∧ (parseMethodDescriptor yX9_isHeld.desc).map (fun d => d.parameters.length) = some 1 := by decide +kernel
theorem lk_X9_areHeld : yX9_areHeld.cls ≠ "java/lang/invoke/MethodHandle" ∧ yX9_areHeld.cls ≠ "java/lang/invoke/VarHandle" ∧ (parseMethodDescriptor yX9_areHeld.desc).map (fun d => d.parameters.length) = some 2 := by decide +kernel
theorem lk_X9_isPlace : yX9_isPlace.cls ≠ "java/lang/invoke/MethodHandle" ∧ yX9_isPlace.cls ≠ "java/lang/invoke/VarHandle" ∧ (parseMethodDescriptor yX9_isPlace.desc).map (fun d => d.parameters.length) = some 2 := by decide +kernel
theorem lk_X9_passOn : yX9_passOn.cls ≠ "java/lang/invoke/MethodHandle" ∧ yX9_passOn.cls ≠ "java/lang/invoke/VarHandle" ∧ (parseMethodDescriptor yX9_passOn.desc).map (fun d => d.parameters.length) = some 2 := by decide +kernel
theorem lk_X9_addPass : yX9_addPass.cls ≠ "java/lang/invoke/MethodHandle" ∧ yX9_addPass.cls ≠ "java/lang/invoke/VarHandle" ∧ (parseMethodDescriptor yX9_addPass.desc).map (fun d => d.parameters.length) = some 3 := by decide +kernel
theorem lk_X9_addCrossing : yX9_addCrossing.cls ≠ "java/lang/invoke/MethodHandle" ∧ yX9_addCrossing.cls ≠ "java/lang/invoke/VarHandle" ∧ (parseMethodDescriptor yX9_addCrossing.desc).map (fun d => d.parameters.length) = some 1 := by decide +kernel
theorem lk_X9_lacksSomething : yX9_lacksSomething.cls ≠ "java/lang/invoke/MethodHandle" ∧ yX9_lacksSomething.cls ≠ "java/lang/invoke/VarHandle" ∧ (parseMethodDescriptor yX9_lacksSomething.desc).map (fun d => d.parameters.length) = some 0 := by decide +kernel
theorem lk_X10_init : yX10_init.cls ≠ "java/lang/invoke/MethodHandle" ∧ yX10_init.cls ≠ "java/lang/invoke/VarHandle" ∧ (parseMethodDescriptor yX10_init.desc).map (fun d => d.parameters.length) = some 1 := by decide +kernel
theorem lk_X10_bestCall : yX10_bestCall.cls ≠ "java/lang/invoke/MethodHandle" ∧ yX10_bestCall.cls ≠ "java/lang/invoke/VarHandle" ∧ (parseMethodDescriptor yX10_bestCall.desc).map (fun d => d.parameters.length) = some 2 := by decide +kernel
theorem lk_X10_leastBehind : yX10_leastBehind.cls ≠ "java/lang/invoke/MethodHandle" ∧ yX10_leastBehind.cls ≠ "java/lang/invoke/VarHandle" ∧ (parseMethodDescriptor yX10_leastBehind.desc).map (fun d => d.parameters.length) = some 1 := by decide +kernel
theorem lk_X10_bestOwn : yX10_bestOwn.cls ≠ "java/lang/invoke/MethodHandle" ∧ yX10_bestOwn.cls ≠ "java/lang/invoke/VarHandle" ∧ (parseMethodDescriptor yX10_bestOwn.desc).map (fun d => d.parameters.length) = some 2 := by decide +kernel
theorem lk_X10_leftBehindRounds : yX10_leftBehindRounds.cls ≠ "java/lang/invoke/MethodHandle" ∧ yX10_leftBehindRounds.cls ≠ "java/lang/invoke/VarHandle" ∧ (parseMethodDescriptor yX10_leftBehindRounds.desc).map (fun d => d.parameters.length) = some 2 := by decide +kernel
theorem lk_X10_looseTries : yX10_looseTries.cls ≠ "java/lang/invoke/MethodHandle" ∧ yX10_looseTries.cls ≠ "java/lang/invoke/VarHandle" ∧ (parseMethodDescriptor yX10_looseTries.desc).map (fun d => d.parameters.length) = some 4 := by decide +kernel
theorem lk_X11_init : yX11_init.cls ≠ "java/lang/invoke/MethodHandle" ∧ yX11_init.cls ≠ "java/lang/invoke/VarHandle" ∧ (parseMethodDescriptor yX11_init.desc).map (fun d => d.parameters.length) = some 0 := by decide +kernel
theorem lk_X11_refuse : yX11_refuse.cls ≠ "java/lang/invoke/MethodHandle" ∧ yX11_refuse.cls ≠ "java/lang/invoke/VarHandle" ∧ (parseMethodDescriptor yX11_refuse.desc).map (fun d => d.parameters.length) = some 1 := by decide +kernel
theorem lk_X11_refuseSigned : yX11_refuseSigned.cls ≠ "java/lang/invoke/MethodHandle" ∧ yX11_refuseSigned.cls ≠ "java/lang/invoke/VarHandle" ∧ (parseMethodDescriptor yX11_refuseSigned.desc).map (fun d => d.parameters.length) = some 1 := by decide +kernel
theorem lk_X11_refuseFlatly : yX11_refuseFlatly.cls ≠ "java/lang/invoke/MethodHandle" ∧ yX11_refuseFlatly.cls ≠ "java/lang/invoke/VarHandle" ∧ (parseMethodDescriptor yX11_refuseFlatly.desc).map (fun d => d.parameters.length) = some 1 := by decide +kernel
theorem lk_X11_grant : yX11_grant.cls ≠ "java/lang/invoke/MethodHandle" ∧ yX11_grant.cls ≠ "java/lang/invoke/VarHandle" ∧ (parseMethodDescriptor yX11_grant.desc).map (fun d => d.parameters.length) = some 1 := by decide +kernel
theorem lk_X11_isPerson : yX11_isPerson.cls ≠ "java/lang/invoke/MethodHandle" ∧ yX11_isPerson.cls ≠ "java/lang/invoke/VarHandle" ∧ (parseMethodDescriptor yX11_isPerson.desc).map (fun d => d.parameters.length) = some 1 := by decide +kernel
theorem lk_X11_isLink : yX11_isLink.cls ≠ "java/lang/invoke/MethodHandle" ∧ yX11_isLink.cls ≠ "java/lang/invoke/VarHandle" ∧ (parseMethodDescriptor yX11_isLink.desc).map (fun d => d.parameters.length) = some 1 := by decide +kernel
theorem lk_X11_isRing : yX11_isRing.cls ≠ "java/lang/invoke/MethodHandle" ∧ yX11_isRing.cls ≠ "java/lang/invoke/VarHandle" ∧ (parseMethodDescriptor yX11_isRing.desc).map (fun d => d.parameters.length) = some 1 := by decide +kernel
theorem lk_X11_isCrossing : yX11_isCrossing.cls ≠ "java/lang/invoke/MethodHandle" ∧ yX11_isCrossing.cls ≠ "java/lang/invoke/VarHandle" ∧ (parseMethodDescriptor yX11_isCrossing.desc).map (fun d => d.parameters.length) = some 1 := by decide +kernel
theorem lk_X11_isStanding : yX11_isStanding.cls ≠ "java/lang/invoke/MethodHandle" ∧ yX11_isStanding.cls ≠ "java/lang/invoke/VarHandle" ∧ (parseMethodDescriptor yX11_isStanding.desc).map (fun d => d.parameters.length) = some 1 := by decide +kernel
theorem lk_X11_isMove : yX11_isMove.cls ≠ "java/lang/invoke/MethodHandle" ∧ yX11_isMove.cls ≠ "java/lang/invoke/VarHandle" ∧ (parseMethodDescriptor yX11_isMove.desc).map (fun d => d.parameters.length) = some 1 := by decide +kernel
theorem lk_X11_isDepth : yX11_isDepth.cls ≠ "java/lang/invoke/MethodHandle" ∧ yX11_isDepth.cls ≠ "java/lang/invoke/VarHandle" ∧ (parseMethodDescriptor yX11_isDepth.desc).map (fun d => d.parameters.length) = some 1 := by decide +kernel
theorem lk_X11_isSeed : yX11_isSeed.cls ≠ "java/lang/invoke/MethodHandle" ∧ yX11_isSeed.cls ≠ "java/lang/invoke/VarHandle" ∧ (parseMethodDescriptor yX11_isSeed.desc).map (fun d => d.parameters.length) = some 1 := by decide +kernel
theorem lk_X11_feed : yX11_feed.cls ≠ "java/lang/invoke/MethodHandle" ∧ yX11_feed.cls ≠ "java/lang/invoke/VarHandle" ∧ (parseMethodDescriptor yX11_feed.desc).map (fun d => d.parameters.length) = some 5 := by decide +kernel
theorem lk_X11_tangle : yX11_tangle.cls ≠ "java/lang/invoke/MethodHandle" ∧ yX11_tangle.cls ≠ "java/lang/invoke/VarHandle" ∧ (parseMethodDescriptor yX11_tangle.desc).map (fun d => d.parameters.length) = some 1 := by decide +kernel
theorem lk_X11_fault : yX11_fault.cls ≠ "java/lang/invoke/MethodHandle" ∧ yX11_fault.cls ≠ "java/lang/invoke/VarHandle" ∧ (parseMethodDescriptor yX11_fault.desc).map (fun d => d.parameters.length) = some 0 := by decide +kernel
theorem lk_X11_where : yX11_where.cls ≠ "java/lang/invoke/MethodHandle" ∧ yX11_where.cls ≠ "java/lang/invoke/VarHandle" ∧ (parseMethodDescriptor yX11_where.desc).map (fun d => d.parameters.length) = some 0 := by decide +kernel
theorem lk_X11_ring : yX11_ring.cls ≠ "java/lang/invoke/MethodHandle" ∧ yX11_ring.cls ≠ "java/lang/invoke/VarHandle" ∧ (parseMethodDescriptor yX11_ring.desc).map (fun d => d.parameters.length) = some 1 := by decide +kernel
theorem lk_X11_people : yX11_people.cls ≠ "java/lang/invoke/MethodHandle" ∧ yX11_people.cls ≠ "java/lang/invoke/VarHandle" ∧ (parseMethodDescriptor yX11_people.desc).map (fun d => d.parameters.length) = some 1 := by decide +kernel
theorem lk_X11_member : yX11_member.cls ≠ "java/lang/invoke/MethodHandle" ∧ yX11_member.cls ≠ "java/lang/invoke/VarHandle" ∧ (parseMethodDescriptor yX11_member.desc).map (fun d => d.parameters.length) = some 2 := by decide +kernel
theorem lk_X11_holds : yX11_holds.cls ≠ "java/lang/invoke/MethodHandle" ∧ yX11_holds.cls ≠ "java/lang/invoke/VarHandle" ∧ (parseMethodDescriptor yX11_holds.desc).map (fun d => d.parameters.length) = some 2 := by decide +kernel
theorem lk_X11_along : yX11_along.cls ≠ "java/lang/invoke/MethodHandle" ∧ yX11_along.cls ≠ "java/lang/invoke/VarHandle" ∧ (parseMethodDescriptor yX11_along.desc).map (fun d => d.parameters.length) = some 1 := by decide +kernel
theorem lk_X11_stands : yX11_stands.cls ≠ "java/lang/invoke/MethodHandle" ∧ yX11_stands.cls ≠ "java/lang/invoke/VarHandle" ∧ (parseMethodDescriptor yX11_stands.desc).map (fun d => d.parameters.length) = some 1 := by decide +kernel
theorem lk_X11_place : yX11_place.cls ≠ "java/lang/invoke/MethodHandle" ∧ yX11_place.cls ≠ "java/lang/invoke/VarHandle" ∧ (parseMethodDescriptor yX11_place.desc).map (fun d => d.parameters.length) = some 2 := by decide +kernel
theorem lk_X11_sign : yX11_sign.cls ≠ "java/lang/invoke/MethodHandle" ∧ yX11_sign.cls ≠ "java/lang/invoke/VarHandle" ∧ (parseMethodDescriptor yX11_sign.desc).map (fun d => d.parameters.length) = some 1 := by decide +kernel
theorem lk_X11_left : yX11_left.cls ≠ "java/lang/invoke/MethodHandle" ∧ yX11_left.cls ≠ "java/lang/invoke/VarHandle" ∧ (parseMethodDescriptor yX11_left.desc).map (fun d => d.parameters.length) = some 0 := by decide +kernel
theorem lk_X11_loose : yX11_loose.cls ≠ "java/lang/invoke/MethodHandle" ∧ yX11_loose.cls ≠ "java/lang/invoke/VarHandle" ∧ (parseMethodDescriptor yX11_loose.desc).map (fun d => d.parameters.length) = some 0 := by decide +kernel
theorem lk_X11_may : yX11_may.cls ≠ "java/lang/invoke/MethodHandle" ∧ yX11_may.cls ≠ "java/lang/invoke/VarHandle" ∧ (parseMethodDescriptor yX11_may.desc).map (fun d => d.parameters.length) = some 1 := by decide +kernel
theorem lk_X11_goer : yX11_goer.cls ≠ "java/lang/invoke/MethodHandle" ∧ yX11_goer.cls ≠ "java/lang/invoke/VarHandle" ∧ (parseMethodDescriptor yX11_goer.desc).map (fun d => d.parameters.length) = some 1 := by decide +kernel
theorem lk_X11_moves : yX11_moves.cls ≠ "java/lang/invoke/MethodHandle" ∧ yX11_moves.cls ≠ "java/lang/invoke/VarHandle" ∧ (parseMethodDescriptor yX11_moves.desc).map (fun d => d.parameters.length) = some 0 := by decide +kernel
theorem lk_X11_moveAt : yX11_moveAt.cls ≠ "java/lang/invoke/MethodHandle" ∧ yX11_moveAt.cls ≠ "java/lang/invoke/VarHandle" ∧ (parseMethodDescriptor yX11_moveAt.desc).map (fun d => d.parameters.length) = some 1 := by decide +kernel
theorem lk_X11_fewest : yX11_fewest.cls ≠ "java/lang/invoke/MethodHandle" ∧ yX11_fewest.cls ≠ "java/lang/invoke/VarHandle" ∧ (parseMethodDescriptor yX11_fewest.desc).map (fun d => d.parameters.length) = some 1 := by decide +kernel
theorem lk_X11_next : yX11_next.cls ≠ "java/lang/invoke/MethodHandle" ∧ yX11_next.cls ≠ "java/lang/invoke/VarHandle" ∧ (parseMethodDescriptor yX11_next.desc).map (fun d => d.parameters.length) = some 1 := by decide +kernel
theorem lk_X11_caller : yX11_caller.cls ≠ "java/lang/invoke/MethodHandle" ∧ yX11_caller.cls ≠ "java/lang/invoke/VarHandle" ∧ (parseMethodDescriptor yX11_caller.desc).map (fun d => d.parameters.length) = some 0 := by decide +kernel
theorem lk_X11_hang : yX11_hang.cls ≠ "java/lang/invoke/MethodHandle" ∧ yX11_hang.cls ≠ "java/lang/invoke/VarHandle" ∧ (parseMethodDescriptor yX11_hang.desc).map (fun d => d.parameters.length) = some 2 := by decide +kernel
theorem lk_X11_colours : yX11_colours.cls ≠ "java/lang/invoke/MethodHandle" ∧ yX11_colours.cls ≠ "java/lang/invoke/VarHandle" ∧ (parseMethodDescriptor yX11_colours.desc).map (fun d => d.parameters.length) = some 1 := by decide +kernel
theorem lk_X11_cannot : yX11_cannot.cls ≠ "java/lang/invoke/MethodHandle" ∧ yX11_cannot.cls ≠ "java/lang/invoke/VarHandle" ∧ (parseMethodDescriptor yX11_cannot.desc).map (fun d => d.parameters.length) = some 0 := by decide +kernel
theorem lk_X11_isProvedTight : yX11_isProvedTight.cls ≠ "java/lang/invoke/MethodHandle" ∧ yX11_isProvedTight.cls ≠ "java/lang/invoke/VarHandle" ∧ (parseMethodDescriptor yX11_isProvedTight.desc).map (fun d => d.parameters.length) = some 0 := by decide +kernel
theorem lk_X11_part : yX11_part.cls ≠ "java/lang/invoke/MethodHandle" ∧ yX11_part.cls ≠ "java/lang/invoke/VarHandle" ∧ (parseMethodDescriptor yX11_part.desc).map (fun d => d.parameters.length) = some 1 := by decide +kernel
theorem lk_X11_bestPart : yX11_bestPart.cls ≠ "java/lang/invoke/MethodHandle" ∧ yX11_bestPart.cls ≠ "java/lang/invoke/VarHandle" ∧ (parseMethodDescriptor yX11_bestPart.desc).map (fun d => d.parameters.length) = some 1 := by decide +kernel
theorem lk_X11_lift : yX11_lift.cls ≠ "java/lang/invoke/MethodHandle" ∧ yX11_lift.cls ≠ "java/lang/invoke/VarHandle" ∧ (parseMethodDescriptor yX11_lift.desc).map (fun d => d.parameters.length) = some 1 := by decide +kernel
theorem lk_X11_bestLift : yX11_bestLift.cls ≠ "java/lang/invoke/MethodHandle" ∧ yX11_bestLift.cls ≠ "java/lang/invoke/VarHandle" ∧ (parseMethodDescriptor yX11_bestLift.desc).map (fun d => d.parameters.length) = some 1 := by decide +kernel
theorem lk_X11_twist : yX11_twist.cls ≠ "java/lang/invoke/MethodHandle" ∧ yX11_twist.cls ≠ "java/lang/invoke/VarHandle" ∧ (parseMethodDescriptor yX11_twist.desc).map (fun d => d.parameters.length) = some 1 := by decide +kernel
theorem lk_X11_arcs : yX11_arcs.cls ≠ "java/lang/invoke/MethodHandle" ∧ yX11_arcs.cls ≠ "java/lang/invoke/VarHandle" ∧ (parseMethodDescriptor yX11_arcs.desc).map (fun d => d.parameters.length) = some 0 := by decide +kernel
theorem lk_X11_reached : yX11_reached.cls ≠ "java/lang/invoke/MethodHandle" ∧ yX11_reached.cls ≠ "java/lang/invoke/VarHandle" ∧ (parseMethodDescriptor yX11_reached.desc).map (fun d => d.parameters.length) = some 1 := by decide +kernel
theorem lk_X11_few : yX11_few.cls ≠ "java/lang/invoke/MethodHandle" ∧ yX11_few.cls ≠ "java/lang/invoke/VarHandle" ∧ (parseMethodDescriptor yX11_few.desc).map (fun d => d.parameters.length) = some 1 := by decide +kernel
theorem lk_X11_sees : yX11_sees.cls ≠ "java/lang/invoke/MethodHandle" ∧ yX11_sees.cls ≠ "java/lang/invoke/VarHandle" ∧ (parseMethodDescriptor yX11_sees.desc).map (fun d => d.parameters.length) = some 1 := by decide +kernel
theorem lk_X11_own : yX11_own.cls ≠ "java/lang/invoke/MethodHandle" ∧ yX11_own.cls ≠ "java/lang/invoke/VarHandle" ∧ (parseMethodDescriptor yX11_own.desc).map (fun d => d.parameters.length) = some 1 := by decide +kernel
theorem lk_X11_rounds : yX11_rounds.cls ≠ "java/lang/invoke/MethodHandle" ∧ yX11_rounds.cls ≠ "java/lang/invoke/VarHandle" ∧ (parseMethodDescriptor yX11_rounds.desc).map (fun d => d.parameters.length) = some 1 := by decide +kernel
theorem lk_X11_tries : yX11_tries.cls ≠ "java/lang/invoke/MethodHandle" ∧ yX11_tries.cls ≠ "java/lang/invoke/VarHandle" ∧ (parseMethodDescriptor yX11_tries.desc).map (fun d => d.parameters.length) = some 3 := by decide +kernel
theorem lk_X11_ways : yX11_ways.cls ≠ "java/lang/invoke/MethodHandle" ∧ yX11_ways.cls ≠ "java/lang/invoke/VarHandle" ∧ (parseMethodDescriptor yX11_ways.desc).map (fun d => d.parameters.length) = some 3 := by decide +kernel
theorem lk_X11_odds : yX11_odds.cls ≠ "java/lang/invoke/MethodHandle" ∧ yX11_odds.cls ≠ "java/lang/invoke/VarHandle" ∧ (parseMethodDescriptor yX11_odds.desc).map (fun d => d.parameters.length) = some 4 := by decide +kernel
theorem lk_X11_mean : yX11_mean.cls ≠ "java/lang/invoke/MethodHandle" ∧ yX11_mean.cls ≠ "java/lang/invoke/VarHandle" ∧ (parseMethodDescriptor yX11_mean.desc).map (fun d => d.parameters.length) = some 3 := by decide +kernel
theorem lk_X11_makeMove : yX11_makeMove.cls ≠ "java/lang/invoke/MethodHandle" ∧ yX11_makeMove.cls ≠ "java/lang/invoke/VarHandle" ∧ (parseMethodDescriptor yX11_makeMove.desc).map (fun d => d.parameters.length) = some 1 := by decide +kernel
theorem lk_X11_move : yX11_move.cls ≠ "java/lang/invoke/MethodHandle" ∧ yX11_move.cls ≠ "java/lang/invoke/VarHandle" ∧ (parseMethodDescriptor yX11_move.desc).map (fun d => d.parameters.length) = some 1 := by decide +kernel
theorem lk_X11_parts : yX11_parts.cls ≠ "java/lang/invoke/MethodHandle" ∧ yX11_parts.cls ≠ "java/lang/invoke/VarHandle" ∧ (parseMethodDescriptor yX11_parts.desc).map (fun d => d.parameters.length) = some 1 := by decide +kernel
theorem lk_X11_lifts : yX11_lifts.cls ≠ "java/lang/invoke/MethodHandle" ∧ yX11_lifts.cls ≠ "java/lang/invoke/VarHandle" ∧ (parseMethodDescriptor yX11_lifts.desc).map (fun d => d.parameters.length) = some 1 := by decide +kernel
theorem lk_X11_lot : yX11_lot.cls ≠ "java/lang/invoke/MethodHandle" ∧ yX11_lot.cls ≠ "java/lang/invoke/VarHandle" ∧ (parseMethodDescriptor yX11_lot.desc).map (fun d => d.parameters.length) = some 0 := by decide +kernel
theorem lk_X11_call : yX11_call.cls ≠ "java/lang/invoke/MethodHandle" ∧ yX11_call.cls ≠ "java/lang/invoke/VarHandle" ∧ (parseMethodDescriptor yX11_call.desc).map (fun d => d.parameters.length) = some 0 := by decide +kernel
theorem lk_X11_seed : yX11_seed.cls ≠ "java/lang/invoke/MethodHandle" ∧ yX11_seed.cls ≠ "java/lang/invoke/VarHandle" ∧ (parseMethodDescriptor yX11_seed.desc).map (fun d => d.parameters.length) = some 1 := by decide +kernel
theorem lk_X11_undo : yX11_undo.cls ≠ "java/lang/invoke/MethodHandle" ∧ yX11_undo.cls ≠ "java/lang/invoke/VarHandle" ∧ (parseMethodDescriptor yX11_undo.desc).map (fun d => d.parameters.length) = some 0 := by decide +kernel
theorem lk_X11_mark : yX11_mark.cls ≠ "java/lang/invoke/MethodHandle" ∧ yX11_mark.cls ≠ "java/lang/invoke/VarHandle" ∧ (parseMethodDescriptor yX11_mark.desc).map (fun d => d.parameters.length) = some 0 := by decide +kernel
theorem lk_X11_back : yX11_back.cls ≠ "java/lang/invoke/MethodHandle" ∧ yX11_back.cls ≠ "java/lang/invoke/VarHandle" ∧ (parseMethodDescriptor yX11_back.desc).map (fun d => d.parameters.length) = some 1 := by decide +kernel
theorem lk_X11_led : yX11_led.cls ≠ "java/lang/invoke/MethodHandle" ∧ yX11_led.cls ≠ "java/lang/invoke/VarHandle" ∧ (parseMethodDescriptor yX11_led.desc).map (fun d => d.parameters.length) = some 1 := by decide +kernel
theorem lk_X11_size : yX11_size.cls ≠ "java/lang/invoke/MethodHandle" ∧ yX11_size.cls ≠ "java/lang/invoke/VarHandle" ∧ (parseMethodDescriptor yX11_size.desc).map (fun d => d.parameters.length) = some 1 := by decide +kernel
theorem lk_X11_toldSize : yX11_toldSize.cls ≠ "java/lang/invoke/MethodHandle" ∧ yX11_toldSize.cls ≠ "java/lang/invoke/VarHandle" ∧ (parseMethodDescriptor yX11_toldSize.desc).map (fun d => d.parameters.length) = some 1 := by decide +kernel
theorem lk_X11_changingSize : yX11_changingSize.cls ≠ "java/lang/invoke/MethodHandle" ∧ yX11_changingSize.cls ≠ "java/lang/invoke/VarHandle" ∧ (parseMethodDescriptor yX11_changingSize.desc).map (fun d => d.parameters.length) = some 1 := by decide +kernel
theorem lk_X11_trouble : yX11_trouble.cls ≠ "java/lang/invoke/MethodHandle" ∧ yX11_trouble.cls ≠ "java/lang/invoke/VarHandle" ∧ (parseMethodDescriptor yX11_trouble.desc).map (fun d => d.parameters.length) = some 0 := by decide +kernel
theorem lk_X12_init : yX12_init.cls ≠ "java/lang/invoke/MethodHandle" ∧ yX12_init.cls ≠ "java/lang/invoke/VarHandle" ∧ (parseMethodDescriptor yX12_init.desc).map (fun d => d.parameters.length) = some 0 := by decide +kernel
theorem lk_X12_find : yX12_find.cls ≠ "java/lang/invoke/MethodHandle" ∧ yX12_find.cls ≠ "java/lang/invoke/VarHandle" ∧ (parseMethodDescriptor yX12_find.desc).map (fun d => d.parameters.length) = some 1 := by decide +kernel
theorem lk_X12_other : yX12_other.cls ≠ "java/lang/invoke/MethodHandle" ∧ yX12_other.cls ≠ "java/lang/invoke/VarHandle" ∧ (parseMethodDescriptor yX12_other.desc).map (fun d => d.parameters.length) = some 1 := by decide +kernel
theorem lk_X12_laysRings : yX12_laysRings.cls ≠ "java/lang/invoke/MethodHandle" ∧ yX12_laysRings.cls ≠ "java/lang/invoke/VarHandle" ∧ (parseMethodDescriptor yX12_laysRings.desc).map (fun d => d.parameters.length) = some 0 := by decide +kernel
theorem lk_X12_laysRing : yX12_laysRing.cls ≠ "java/lang/invoke/MethodHandle" ∧ yX12_laysRing.cls ≠ "java/lang/invoke/VarHandle" ∧ (parseMethodDescriptor yX12_laysRing.desc).map (fun d => d.parameters.length) = some 1 := by decide +kernel
theorem lk_X12_laysStandings : yX12_laysStandings.cls ≠ "java/lang/invoke/MethodHandle" ∧ yX12_laysStandings.cls ≠ "java/lang/invoke/VarHandle" ∧ (parseMethodDescriptor yX12_laysStandings.desc).map (fun d => d.parameters.length) = some 1 := by decide +kernel
theorem lk_X12_stands : yX12_stands.cls ≠ "java/lang/invoke/MethodHandle" ∧ yX12_stands.cls ≠ "java/lang/invoke/VarHandle" ∧ (parseMethodDescriptor yX12_stands.desc).map (fun d => d.parameters.length) = some 2 := by decide +kernel
theorem lk_X12_signOf : yX12_signOf.cls ≠ "java/lang/invoke/MethodHandle" ∧ yX12_signOf.cls ≠ "java/lang/invoke/VarHandle" ∧ (parseMethodDescriptor yX12_signOf.desc).map (fun d => d.parameters.length) = some 2 := by decide +kernel
theorem lk_X13_init : yX13_init.cls ≠ "java/lang/invoke/MethodHandle" ∧ yX13_init.cls ≠ "java/lang/invoke/VarHandle" ∧ (parseMethodDescriptor yX13_init.desc).map (fun d => d.parameters.length) = some 0 := by decide +kernel
theorem lk_X13_thrown : yX13_thrown.cls ≠ "java/lang/invoke/MethodHandle" ∧ yX13_thrown.cls ≠ "java/lang/invoke/VarHandle" ∧ (parseMethodDescriptor yX13_thrown.desc).map (fun d => d.parameters.length) = some 0 := by decide +kernel
theorem lk_X13_refused : yX13_refused.cls ≠ "java/lang/invoke/MethodHandle" ∧ yX13_refused.cls ≠ "java/lang/invoke/VarHandle" ∧ (parseMethodDescriptor yX13_refused.desc).map (fun d => d.parameters.length) = some 1 := by decide +kernel
theorem lk_X13_lost : yX13_lost.cls ≠ "java/lang/invoke/MethodHandle" ∧ yX13_lost.cls ≠ "java/lang/invoke/VarHandle" ∧ (parseMethodDescriptor yX13_lost.desc).map (fun d => d.parameters.length) = some 1 := by decide +kernel
theorem lk_X13_denied : yX13_denied.cls ≠ "java/lang/invoke/MethodHandle" ∧ yX13_denied.cls ≠ "java/lang/invoke/VarHandle" ∧ (parseMethodDescriptor yX13_denied.desc).map (fun d => d.parameters.length) = some 1 := by decide +kernel
theorem lk_X13_good : yX13_good.cls ≠ "java/lang/invoke/MethodHandle" ∧ yX13_good.cls ≠ "java/lang/invoke/VarHandle" ∧ (parseMethodDescriptor yX13_good.desc).map (fun d => d.parameters.length) = some 1 := by decide +kernel
theorem lk_X13_granted : yX13_granted.cls ≠ "java/lang/invoke/MethodHandle" ∧ yX13_granted.cls ≠ "java/lang/invoke/VarHandle" ∧ (parseMethodDescriptor yX13_granted.desc).map (fun d => d.parameters.length) = some 0 := by decide +kernel
theorem lk_X13_in : yX13_in.cls ≠ "java/lang/invoke/MethodHandle" ∧ yX13_in.cls ≠ "java/lang/invoke/VarHandle" ∧ (parseMethodDescriptor yX13_in.desc).map (fun d => d.parameters.length) = some 3 := by decide +kernel
theorem lk_X13_byteAt : yX13_byteAt.cls ≠ "java/lang/invoke/MethodHandle" ∧ yX13_byteAt.cls ≠ "java/lang/invoke/VarHandle" ∧ (parseMethodDescriptor yX13_byteAt.desc).map (fun d => d.parameters.length) = some 1 := by decide +kernel
theorem lk_X13_isLetter : yX13_isLetter.cls ≠ "java/lang/invoke/MethodHandle" ∧ yX13_isLetter.cls ≠ "java/lang/invoke/VarHandle" ∧ (parseMethodDescriptor yX13_isLetter.desc).map (fun d => d.parameters.length) = some 1 := by decide +kernel
theorem lk_X13_isDigit : yX13_isDigit.cls ≠ "java/lang/invoke/MethodHandle" ∧ yX13_isDigit.cls ≠ "java/lang/invoke/VarHandle" ∧ (parseMethodDescriptor yX13_isDigit.desc).map (fun d => d.parameters.length) = some 1 := by decide +kernel
theorem lk_X13_wordOf : yX13_wordOf.cls ≠ "java/lang/invoke/MethodHandle" ∧ yX13_wordOf.cls ≠ "java/lang/invoke/VarHandle" ∧ (parseMethodDescriptor yX13_wordOf.desc).map (fun d => d.parameters.length) = some 1 := by decide +kernel
theorem lk_X13_goesOn : yX13_goesOn.cls ≠ "java/lang/invoke/MethodHandle" ∧ yX13_goesOn.cls ≠ "java/lang/invoke/VarHandle" ∧ (parseMethodDescriptor yX13_goesOn.desc).map (fun d => d.parameters.length) = some 0 := by decide +kernel
theorem lk_X13_flaw : yX13_flaw.cls ≠ "java/lang/invoke/MethodHandle" ∧ yX13_flaw.cls ≠ "java/lang/invoke/VarHandle" ∧ (parseMethodDescriptor yX13_flaw.desc).map (fun d => d.parameters.length) = some 1 := by decide +kernel
theorem lk_X13_isWord : yX13_isWord.cls ≠ "java/lang/invoke/MethodHandle" ∧ yX13_isWord.cls ≠ "java/lang/invoke/VarHandle" ∧ (parseMethodDescriptor yX13_isWord.desc).map (fun d => d.parameters.length) = some 1 := by decide +kernel
theorem lk_X13_eatsWord : yX13_eatsWord.cls ≠ "java/lang/invoke/MethodHandle" ∧ yX13_eatsWord.cls ≠ "java/lang/invoke/VarHandle" ∧ (parseMethodDescriptor yX13_eatsWord.desc).map (fun d => d.parameters.length) = some 1 := by decide +kernel
theorem lk_X13_eatsSemicolon : yX13_eatsSemicolon.cls ≠ "java/lang/invoke/MethodHandle" ∧ yX13_eatsSemicolon.cls ≠ "java/lang/invoke/VarHandle" ∧ (parseMethodDescriptor yX13_eatsSemicolon.desc).map (fun d => d.parameters.length) = some 0 := by decide +kernel
theorem lk_X13_needs : yX13_needs.cls ≠ "java/lang/invoke/MethodHandle" ∧ yX13_needs.cls ≠ "java/lang/invoke/VarHandle" ∧ (parseMethodDescriptor yX13_needs.desc).map (fun d => d.parameters.length) = some 1 := by decide +kernel
theorem lk_X13_bounded : yX13_bounded.cls ≠ "java/lang/invoke/MethodHandle" ∧ yX13_bounded.cls ≠ "java/lang/invoke/VarHandle" ∧ (parseMethodDescriptor yX13_bounded.desc).map (fun d => d.parameters.length) = some 2 := by decide +kernel
theorem lk_X13_readPart : yX13_readPart.cls ≠ "java/lang/invoke/MethodHandle" ∧ yX13_readPart.cls ≠ "java/lang/invoke/VarHandle" ∧ (parseMethodDescriptor yX13_readPart.desc).map (fun d => d.parameters.length) = some 3 := by decide +kernel
theorem lk_X13_isName : yX13_isName.cls ≠ "java/lang/invoke/MethodHandle" ∧ yX13_isName.cls ≠ "java/lang/invoke/VarHandle" ∧ (parseMethodDescriptor yX13_isName.desc).map (fun d => d.parameters.length) = some 0 := by decide +kernel
theorem lk_X13_begins : yX13_begins.cls ≠ "java/lang/invoke/MethodHandle" ∧ yX13_begins.cls ≠ "java/lang/invoke/VarHandle" ∧ (parseMethodDescriptor yX13_begins.desc).map (fun d => d.parameters.length) = some 2 := by decide +kernel
theorem lk_X13_readFresh : yX13_readFresh.cls ≠ "java/lang/invoke/MethodHandle" ∧ yX13_readFresh.cls ≠ "java/lang/invoke/VarHandle" ∧ (parseMethodDescriptor yX13_readFresh.desc).map (fun d => d.parameters.length) = some 0 := by decide +kernel
theorem lk_X13_names : yX13_names.cls ≠ "java/lang/invoke/MethodHandle" ∧ yX13_names.cls ≠ "java/lang/invoke/VarHandle" ∧ (parseMethodDescriptor yX13_names.desc).map (fun d => d.parameters.length) = some 3 := by decide +kernel
theorem lk_X13_known : yX13_known.cls ≠ "java/lang/invoke/MethodHandle" ∧ yX13_known.cls ≠ "java/lang/invoke/VarHandle" ∧ (parseMethodDescriptor yX13_known.desc).map (fun d => d.parameters.length) = some 1 := by decide +kernel
theorem lk_X13_readAll : yX13_readAll.cls ≠ "java/lang/invoke/MethodHandle" ∧ yX13_readAll.cls ≠ "java/lang/invoke/VarHandle" ∧ (parseMethodDescriptor yX13_readAll.desc).map (fun d => d.parameters.length) = some 0 := by decide +kernel
theorem lk_X13_readLine : yX13_readLine.cls ≠ "java/lang/invoke/MethodHandle" ∧ yX13_readLine.cls ≠ "java/lang/invoke/VarHandle" ∧ (parseMethodDescriptor yX13_readLine.desc).map (fun d => d.parameters.length) = some 0 := by decide +kernel
theorem lk_X13_readTangle : yX13_readTangle.cls ≠ "java/lang/invoke/MethodHandle" ∧ yX13_readTangle.cls ≠ "java/lang/invoke/VarHandle" ∧ (parseMethodDescriptor yX13_readTangle.desc).map (fun d => d.parameters.length) = some 0 := by decide +kernel
theorem lk_X13_readPerson : yX13_readPerson.cls ≠ "java/lang/invoke/MethodHandle" ∧ yX13_readPerson.cls ≠ "java/lang/invoke/VarHandle" ∧ (parseMethodDescriptor yX13_readPerson.desc).map (fun d => d.parameters.length) = some 0 := by decide +kernel
theorem lk_X13_readHand : yX13_readHand.cls ≠ "java/lang/invoke/MethodHandle" ∧ yX13_readHand.cls ≠ "java/lang/invoke/VarHandle" ∧ (parseMethodDescriptor yX13_readHand.desc).map (fun d => d.parameters.length) = some 1 := by decide +kernel
theorem lk_X13_isHeld : yX13_isHeld.cls ≠ "java/lang/invoke/MethodHandle" ∧ yX13_isHeld.cls ≠ "java/lang/invoke/VarHandle" ∧ (parseMethodDescriptor yX13_isHeld.desc).map (fun d => d.parameters.length) = some 2 := by decide +kernel
theorem lk_X13_readHold : yX13_readHold.cls ≠ "java/lang/invoke/MethodHandle" ∧ yX13_readHold.cls ≠ "java/lang/invoke/VarHandle" ∧ (parseMethodDescriptor yX13_readHold.desc).map (fun d => d.parameters.length) = some 0 := by decide +kernel
theorem lk_X13_readPlace : yX13_readPlace.cls ≠ "java/lang/invoke/MethodHandle" ∧ yX13_readPlace.cls ≠ "java/lang/invoke/VarHandle" ∧ (parseMethodDescriptor yX13_readPlace.desc).map (fun d => d.parameters.length) = some 2 := by decide +kernel
theorem lk_X13_readCross : yX13_readCross.cls ≠ "java/lang/invoke/MethodHandle" ∧ yX13_readCross.cls ≠ "java/lang/invoke/VarHandle" ∧ (parseMethodDescriptor yX13_readCross.desc).map (fun d => d.parameters.length) = some 0 := by decide +kernel
theorem lk_X13_feed : yX13_feed.cls ≠ "java/lang/invoke/MethodHandle" ∧ yX13_feed.cls ≠ "java/lang/invoke/VarHandle" ∧ (parseMethodDescriptor yX13_feed.desc).map (fun d => d.parameters.length) = some 5 := by decide +kernel
theorem lk_X13_tangle : yX13_tangle.cls ≠ "java/lang/invoke/MethodHandle" ∧ yX13_tangle.cls ≠ "java/lang/invoke/VarHandle" ∧ (parseMethodDescriptor yX13_tangle.desc).map (fun d => d.parameters.length) = some 1 := by decide +kernel
theorem lk_X13_fault : yX13_fault.cls ≠ "java/lang/invoke/MethodHandle" ∧ yX13_fault.cls ≠ "java/lang/invoke/VarHandle" ∧ (parseMethodDescriptor yX13_fault.desc).map (fun d => d.parameters.length) = some 0 := by decide +kernel
theorem lk_X13_where : yX13_where.cls ≠ "java/lang/invoke/MethodHandle" ∧ yX13_where.cls ≠ "java/lang/invoke/VarHandle" ∧ (parseMethodDescriptor yX13_where.desc).map (fun d => d.parameters.length) = some 0 := by decide +kernel
theorem lk_X13_signNow : yX13_signNow.cls ≠ "java/lang/invoke/MethodHandle" ∧ yX13_signNow.cls ≠ "java/lang/invoke/VarHandle" ∧ (parseMethodDescriptor yX13_signNow.desc).map (fun d => d.parameters.length) = some 1 := by decide +kernel
theorem lk_X13_at : yX13_at.cls ≠ "java/lang/invoke/MethodHandle" ∧ yX13_at.cls ≠ "java/lang/invoke/VarHandle" ∧ (parseMethodDescriptor yX13_at.desc).map (fun d => d.parameters.length) = some 2 := by decide +kernel
theorem lk_X13_with : yX13_with.cls ≠ "java/lang/invoke/MethodHandle" ∧ yX13_with.cls ≠ "java/lang/invoke/VarHandle" ∧ (parseMethodDescriptor yX13_with.desc).map (fun d => d.parameters.length) = some 3 := by decide +kernel
theorem lk_X13_looks : yX13_looks.cls ≠ "java/lang/invoke/MethodHandle" ∧ yX13_looks.cls ≠ "java/lang/invoke/VarHandle" ∧ (parseMethodDescriptor yX13_looks.desc).map (fun d => d.parameters.length) = some 1 := by decide +kernel
theorem lk_X13_nextFrom : yX13_nextFrom.cls ≠ "java/lang/invoke/MethodHandle" ∧ yX13_nextFrom.cls ≠ "java/lang/invoke/VarHandle" ∧ (parseMethodDescriptor yX13_nextFrom.desc).map (fun d => d.parameters.length) = some 2 := by decide +kernel
theorem lk_X13_isOpen : yX13_isOpen.cls ≠ "java/lang/invoke/MethodHandle" ∧ yX13_isOpen.cls ≠ "java/lang/invoke/VarHandle" ∧ (parseMethodDescriptor yX13_isOpen.desc).map (fun d => d.parameters.length) = some 3 := by decide +kernel
theorem lk_X13_areBeside : yX13_areBeside.cls ≠ "java/lang/invoke/MethodHandle" ∧ yX13_areBeside.cls ≠ "java/lang/invoke/VarHandle" ∧ (parseMethodDescriptor yX13_areBeside.desc).map (fun d => d.parameters.length) = some 2 := by decide +kernel
theorem lk_X13_kindOf : yX13_kindOf.cls ≠ "java/lang/invoke/MethodHandle" ∧ yX13_kindOf.cls ≠ "java/lang/invoke/VarHandle" ∧ (parseMethodDescriptor yX13_kindOf.desc).map (fun d => d.parameters.length) = some 1 := by decide +kernel
theorem lk_X13_isMove : yX13_isMove.cls ≠ "java/lang/invoke/MethodHandle" ∧ yX13_isMove.cls ≠ "java/lang/invoke/VarHandle" ∧ (parseMethodDescriptor yX13_isMove.desc).map (fun d => d.parameters.length) = some 1 := by decide +kernel
theorem lk_X13_can : yX13_can.cls ≠ "java/lang/invoke/MethodHandle" ∧ yX13_can.cls ≠ "java/lang/invoke/VarHandle" ∧ (parseMethodDescriptor yX13_can.desc).map (fun d => d.parameters.length) = some 1 := by decide +kernel
theorem lk_X13_goerOf : yX13_goerOf.cls ≠ "java/lang/invoke/MethodHandle" ∧ yX13_goerOf.cls ≠ "java/lang/invoke/VarHandle" ∧ (parseMethodDescriptor yX13_goerOf.desc).map (fun d => d.parameters.length) = some 1 := by decide +kernel
theorem lk_X13_mayMove : yX13_mayMove.cls ≠ "java/lang/invoke/MethodHandle" ∧ yX13_mayMove.cls ≠ "java/lang/invoke/VarHandle" ∧ (parseMethodDescriptor yX13_mayMove.desc).map (fun d => d.parameters.length) = some 1 := by decide +kernel
theorem lk_X13_behind : yX13_behind.cls ≠ "java/lang/invoke/MethodHandle" ∧ yX13_behind.cls ≠ "java/lang/invoke/VarHandle" ∧ (parseMethodDescriptor yX13_behind.desc).map (fun d => d.parameters.length) = some 2 := by decide +kernel
theorem lk_X13_without : yX13_without.cls ≠ "java/lang/invoke/MethodHandle" ∧ yX13_without.cls ≠ "java/lang/invoke/VarHandle" ∧ (parseMethodDescriptor yX13_without.desc).map (fun d => d.parameters.length) = some 2 := by decide +kernel
theorem lk_X13_changed : yX13_changed.cls ≠ "java/lang/invoke/MethodHandle" ∧ yX13_changed.cls ≠ "java/lang/invoke/VarHandle" ∧ (parseMethodDescriptor yX13_changed.desc).map (fun d => d.parameters.length) = some 3 := by decide +kernel
theorem lk_X13_nextMove : yX13_nextMove.cls ≠ "java/lang/invoke/MethodHandle" ∧ yX13_nextMove.cls ≠ "java/lang/invoke/VarHandle" ∧ (parseMethodDescriptor yX13_nextMove.desc).map (fun d => d.parameters.length) = some 1 := by decide +kernel
theorem lk_X13_nextMay : yX13_nextMay.cls ≠ "java/lang/invoke/MethodHandle" ∧ yX13_nextMay.cls ≠ "java/lang/invoke/VarHandle" ∧ (parseMethodDescriptor yX13_nextMay.desc).map (fun d => d.parameters.length) = some 1 := by decide +kernel
theorem lk_X13_leftIn : yX13_leftIn.cls ≠ "java/lang/invoke/MethodHandle" ∧ yX13_leftIn.cls ≠ "java/lang/invoke/VarHandle" ∧ (parseMethodDescriptor yX13_leftIn.desc).map (fun d => d.parameters.length) = some 1 := by decide +kernel
theorem lk_X13_isPerson : yX13_isPerson.cls ≠ "java/lang/invoke/MethodHandle" ∧ yX13_isPerson.cls ≠ "java/lang/invoke/VarHandle" ∧ (parseMethodDescriptor yX13_isPerson.desc).map (fun d => d.parameters.length) = some 1 := by decide +kernel
theorem lk_X13_isRing : yX13_isRing.cls ≠ "java/lang/invoke/MethodHandle" ∧ yX13_isRing.cls ≠ "java/lang/invoke/VarHandle" ∧ (parseMethodDescriptor yX13_isRing.desc).map (fun d => d.parameters.length) = some 1 := by decide +kernel
theorem lk_X13_isLink : yX13_isLink.cls ≠ "java/lang/invoke/MethodHandle" ∧ yX13_isLink.cls ≠ "java/lang/invoke/VarHandle" ∧ (parseMethodDescriptor yX13_isLink.desc).map (fun d => d.parameters.length) = some 1 := by decide +kernel
theorem lk_X13_isStanding : yX13_isStanding.cls ≠ "java/lang/invoke/MethodHandle" ∧ yX13_isStanding.cls ≠ "java/lang/invoke/VarHandle" ∧ (parseMethodDescriptor yX13_isStanding.desc).map (fun d => d.parameters.length) = some 1 := by decide +kernel
theorem lk_X13_ring : yX13_ring.cls ≠ "java/lang/invoke/MethodHandle" ∧ yX13_ring.cls ≠ "java/lang/invoke/VarHandle" ∧ (parseMethodDescriptor yX13_ring.desc).map (fun d => d.parameters.length) = some 1 := by decide +kernel
theorem lk_X13_people : yX13_people.cls ≠ "java/lang/invoke/MethodHandle" ∧ yX13_people.cls ≠ "java/lang/invoke/VarHandle" ∧ (parseMethodDescriptor yX13_people.desc).map (fun d => d.parameters.length) = some 1 := by decide +kernel
theorem lk_X13_member : yX13_member.cls ≠ "java/lang/invoke/MethodHandle" ∧ yX13_member.cls ≠ "java/lang/invoke/VarHandle" ∧ (parseMethodDescriptor yX13_member.desc).map (fun d => d.parameters.length) = some 2 := by decide +kernel
theorem lk_X13_holds : yX13_holds.cls ≠ "java/lang/invoke/MethodHandle" ∧ yX13_holds.cls ≠ "java/lang/invoke/VarHandle" ∧ (parseMethodDescriptor yX13_holds.desc).map (fun d => d.parameters.length) = some 2 := by decide +kernel
theorem lk_X13_along : yX13_along.cls ≠ "java/lang/invoke/MethodHandle" ∧ yX13_along.cls ≠ "java/lang/invoke/VarHandle" ∧ (parseMethodDescriptor yX13_along.desc).map (fun d => d.parameters.length) = some 1 := by decide +kernel
theorem lk_X13_stands : yX13_stands.cls ≠ "java/lang/invoke/MethodHandle" ∧ yX13_stands.cls ≠ "java/lang/invoke/VarHandle" ∧ (parseMethodDescriptor yX13_stands.desc).map (fun d => d.parameters.length) = some 1 := by decide +kernel
theorem lk_X13_place : yX13_place.cls ≠ "java/lang/invoke/MethodHandle" ∧ yX13_place.cls ≠ "java/lang/invoke/VarHandle" ∧ (parseMethodDescriptor yX13_place.desc).map (fun d => d.parameters.length) = some 2 := by decide +kernel
theorem lk_X13_isLeft : yX13_isLeft.cls ≠ "java/lang/invoke/MethodHandle" ∧ yX13_isLeft.cls ≠ "java/lang/invoke/VarHandle" ∧ (parseMethodDescriptor yX13_isLeft.desc).map (fun d => d.parameters.length) = some 1 := by decide +kernel
theorem lk_X13_sign : yX13_sign.cls ≠ "java/lang/invoke/MethodHandle" ∧ yX13_sign.cls ≠ "java/lang/invoke/VarHandle" ∧ (parseMethodDescriptor yX13_sign.desc).map (fun d => d.parameters.length) = some 1 := by decide +kernel
theorem lk_X13_left : yX13_left.cls ≠ "java/lang/invoke/MethodHandle" ∧ yX13_left.cls ≠ "java/lang/invoke/VarHandle" ∧ (parseMethodDescriptor yX13_left.desc).map (fun d => d.parameters.length) = some 0 := by decide +kernel
theorem lk_X13_loose : yX13_loose.cls ≠ "java/lang/invoke/MethodHandle" ∧ yX13_loose.cls ≠ "java/lang/invoke/VarHandle" ∧ (parseMethodDescriptor yX13_loose.desc).map (fun d => d.parameters.length) = some 0 := by decide +kernel
theorem lk_X13_may : yX13_may.cls ≠ "java/lang/invoke/MethodHandle" ∧ yX13_may.cls ≠ "java/lang/invoke/VarHandle" ∧ (parseMethodDescriptor yX13_may.desc).map (fun d => d.parameters.length) = some 1 := by decide +kernel
theorem lk_X13_goer : yX13_goer.cls ≠ "java/lang/invoke/MethodHandle" ∧ yX13_goer.cls ≠ "java/lang/invoke/VarHandle" ∧ (parseMethodDescriptor yX13_goer.desc).map (fun d => d.parameters.length) = some 1 := by decide +kernel
theorem lk_X13_moves : yX13_moves.cls ≠ "java/lang/invoke/MethodHandle" ∧ yX13_moves.cls ≠ "java/lang/invoke/VarHandle" ∧ (parseMethodDescriptor yX13_moves.desc).map (fun d => d.parameters.length) = some 0 := by decide +kernel
theorem lk_X13_moveAt : yX13_moveAt.cls ≠ "java/lang/invoke/MethodHandle" ∧ yX13_moveAt.cls ≠ "java/lang/invoke/VarHandle" ∧ (parseMethodDescriptor yX13_moveAt.desc).map (fun d => d.parameters.length) = some 1 := by decide +kernel
theorem lk_X13_comes : yX13_comes.cls ≠ "java/lang/invoke/MethodHandle" ∧ yX13_comes.cls ≠ "java/lang/invoke/VarHandle" ∧ (parseMethodDescriptor yX13_comes.desc).map (fun d => d.parameters.length) = some 1 := by decide +kernel
theorem lk_X13_fewestFrom : yX13_fewestFrom.cls ≠ "java/lang/invoke/MethodHandle" ∧ yX13_fewestFrom.cls ≠ "java/lang/invoke/VarHandle" ∧ (parseMethodDescriptor yX13_fewestFrom.desc).map (fun d => d.parameters.length) = some 2 := by decide +kernel
theorem lk_X13_goesOnFrom : yX13_goesOnFrom.cls ≠ "java/lang/invoke/MethodHandle" ∧ yX13_goesOnFrom.cls ≠ "java/lang/invoke/VarHandle" ∧ (parseMethodDescriptor yX13_goesOnFrom.desc).map (fun d => d.parameters.length) = some 1 := by decide +kernel
theorem lk_X13_fewest : yX13_fewest.cls ≠ "java/lang/invoke/MethodHandle" ∧ yX13_fewest.cls ≠ "java/lang/invoke/VarHandle" ∧ (parseMethodDescriptor yX13_fewest.desc).map (fun d => d.parameters.length) = some 1 := by decide +kernel
theorem lk_X13_next : yX13_next.cls ≠ "java/lang/invoke/MethodHandle" ∧ yX13_next.cls ≠ "java/lang/invoke/VarHandle" ∧ (parseMethodDescriptor yX13_next.desc).map (fun d => d.parameters.length) = some 1 := by decide +kernel
theorem lk_X13_callerNow : yX13_callerNow.cls ≠ "java/lang/invoke/MethodHandle" ∧ yX13_callerNow.cls ≠ "java/lang/invoke/VarHandle" ∧ (parseMethodDescriptor yX13_callerNow.desc).map (fun d => d.parameters.length) = some 0 := by decide +kernel
theorem lk_X13_leastBehind : yX13_leastBehind.cls ≠ "java/lang/invoke/MethodHandle" ∧ yX13_leastBehind.cls ≠ "java/lang/invoke/VarHandle" ∧ (parseMethodDescriptor yX13_leastBehind.desc).map (fun d => d.parameters.length) = some 1 := by decide +kernel
theorem lk_X13_caller : yX13_caller.cls ≠ "java/lang/invoke/MethodHandle" ∧ yX13_caller.cls ≠ "java/lang/invoke/VarHandle" ∧ (parseMethodDescriptor yX13_caller.desc).map (fun d => d.parameters.length) = some 0 := by decide +kernel
theorem lk_X13_hangNow : yX13_hangNow.cls ≠ "java/lang/invoke/MethodHandle" ∧ yX13_hangNow.cls ≠ "java/lang/invoke/VarHandle" ∧ (parseMethodDescriptor yX13_hangNow.desc).map (fun d => d.parameters.length) = some 2 := by decide +kernel
theorem lk_X13_hang : yX13_hang.cls ≠ "java/lang/invoke/MethodHandle" ∧ yX13_hang.cls ≠ "java/lang/invoke/VarHandle" ∧ (parseMethodDescriptor yX13_hang.desc).map (fun d => d.parameters.length) = some 2 := by decide +kernel
theorem lk_X13_laysArcs : yX13_laysArcs.cls ≠ "java/lang/invoke/MethodHandle" ∧ yX13_laysArcs.cls ≠ "java/lang/invoke/VarHandle" ∧ (parseMethodDescriptor yX13_laysArcs.desc).map (fun d => d.parameters.length) = some 0 := by decide +kernel
theorem lk_X13_laysArcsOf : yX13_laysArcsOf.cls ≠ "java/lang/invoke/MethodHandle" ∧ yX13_laysArcsOf.cls ≠ "java/lang/invoke/VarHandle" ∧ (parseMethodDescriptor yX13_laysArcsOf.desc).map (fun d => d.parameters.length) = some 2 := by decide +kernel
theorem lk_X13_turned : yX13_turned.cls ≠ "java/lang/invoke/MethodHandle" ∧ yX13_turned.cls ≠ "java/lang/invoke/VarHandle" ∧ (parseMethodDescriptor yX13_turned.desc).map (fun d => d.parameters.length) = some 2 := by decide +kernel
theorem lk_X13_coloursNow : yX13_coloursNow.cls ≠ "java/lang/invoke/MethodHandle" ∧ yX13_coloursNow.cls ≠ "java/lang/invoke/VarHandle" ∧ (parseMethodDescriptor yX13_coloursNow.desc).map (fun d => d.parameters.length) = some 1 := by decide +kernel
theorem lk_X13_adds : yX13_adds.cls ≠ "java/lang/invoke/MethodHandle" ∧ yX13_adds.cls ≠ "java/lang/invoke/VarHandle" ∧ (parseMethodDescriptor yX13_adds.desc).map (fun d => d.parameters.length) = some 4 := by decide +kernel
theorem lk_X13_colours : yX13_colours.cls ≠ "java/lang/invoke/MethodHandle" ∧ yX13_colours.cls ≠ "java/lang/invoke/VarHandle" ∧ (parseMethodDescriptor yX13_colours.desc).map (fun d => d.parameters.length) = some 1 := by decide +kernel
theorem lk_X13_cannot : yX13_cannot.cls ≠ "java/lang/invoke/MethodHandle" ∧ yX13_cannot.cls ≠ "java/lang/invoke/VarHandle" ∧ (parseMethodDescriptor yX13_cannot.desc).map (fun d => d.parameters.length) = some 0 := by decide +kernel
theorem lk_X13_partedFrom : yX13_partedFrom.cls ≠ "java/lang/invoke/MethodHandle" ∧ yX13_partedFrom.cls ≠ "java/lang/invoke/VarHandle" ∧ (parseMethodDescriptor yX13_partedFrom.desc).map (fun d => d.parameters.length) = some 2 := by decide +kernel
theorem lk_X13_part : yX13_part.cls ≠ "java/lang/invoke/MethodHandle" ∧ yX13_part.cls ≠ "java/lang/invoke/VarHandle" ∧ (parseMethodDescriptor yX13_part.desc).map (fun d => d.parameters.length) = some 1 := by decide +kernel
theorem lk_X13_isCrossing : yX13_isCrossing.cls ≠ "java/lang/invoke/MethodHandle" ∧ yX13_isCrossing.cls ≠ "java/lang/invoke/VarHandle" ∧ (parseMethodDescriptor yX13_isCrossing.desc).map (fun d => d.parameters.length) = some 1 := by decide +kernel
theorem lk_X13_liftedFrom : yX13_liftedFrom.cls ≠ "java/lang/invoke/MethodHandle" ∧ yX13_liftedFrom.cls ≠ "java/lang/invoke/VarHandle" ∧ (parseMethodDescriptor yX13_liftedFrom.desc).map (fun d => d.parameters.length) = some 2 := by decide +kernel
theorem lk_X13_lift : yX13_lift.cls ≠ "java/lang/invoke/MethodHandle" ∧ yX13_lift.cls ≠ "java/lang/invoke/VarHandle" ∧ (parseMethodDescriptor yX13_lift.desc).map (fun d => d.parameters.length) = some 1 := by decide +kernel
theorem lk_X13_lifts : yX13_lifts.cls ≠ "java/lang/invoke/MethodHandle" ∧ yX13_lifts.cls ≠ "java/lang/invoke/VarHandle" ∧ (parseMethodDescriptor yX13_lifts.desc).map (fun d => d.parameters.length) = some 1 := by decide +kernel
theorem lk_X13_twist : yX13_twist.cls ≠ "java/lang/invoke/MethodHandle" ∧ yX13_twist.cls ≠ "java/lang/invoke/VarHandle" ∧ (parseMethodDescriptor yX13_twist.desc).map (fun d => d.parameters.length) = some 1 := by decide +kernel
theorem lk_X13_arcs : yX13_arcs.cls ≠ "java/lang/invoke/MethodHandle" ∧ yX13_arcs.cls ≠ "java/lang/invoke/VarHandle" ∧ (parseMethodDescriptor yX13_arcs.desc).map (fun d => d.parameters.length) = some 0 := by decide +kernel
theorem lk_X13_comesAll : yX13_comesAll.cls ≠ "java/lang/invoke/MethodHandle" ∧ yX13_comesAll.cls ≠ "java/lang/invoke/VarHandle" ∧ (parseMethodDescriptor yX13_comesAll.desc).map (fun d => d.parameters.length) = some 1 := by decide +kernel
theorem lk_X13_reached : yX13_reached.cls ≠ "java/lang/invoke/MethodHandle" ∧ yX13_reached.cls ≠ "java/lang/invoke/VarHandle" ∧ (parseMethodDescriptor yX13_reached.desc).map (fun d => d.parameters.length) = some 1 := by decide +kernel
theorem lk_X13_few : yX13_few.cls ≠ "java/lang/invoke/MethodHandle" ∧ yX13_few.cls ≠ "java/lang/invoke/VarHandle" ∧ (parseMethodDescriptor yX13_few.desc).map (fun d => d.parameters.length) = some 1 := by decide +kernel
theorem lk_X13_seesIn : yX13_seesIn.cls ≠ "java/lang/invoke/MethodHandle" ∧ yX13_seesIn.cls ≠ "java/lang/invoke/VarHandle" ∧ (parseMethodDescriptor yX13_seesIn.desc).map (fun d => d.parameters.length) = some 2 := by decide +kernel
theorem lk_X13_sees : yX13_sees.cls ≠ "java/lang/invoke/MethodHandle" ∧ yX13_sees.cls ≠ "java/lang/invoke/VarHandle" ∧ (parseMethodDescriptor yX13_sees.desc).map (fun d => d.parameters.length) = some 1 := by decide +kernel
theorem lk_X13_crossingsOf : yX13_crossingsOf.cls ≠ "java/lang/invoke/MethodHandle" ∧ yX13_crossingsOf.cls ≠ "java/lang/invoke/VarHandle" ∧ (parseMethodDescriptor yX13_crossingsOf.desc).map (fun d => d.parameters.length) = some 1 := by decide +kernel
theorem lk_X13_ownIn : yX13_ownIn.cls ≠ "java/lang/invoke/MethodHandle" ∧ yX13_ownIn.cls ≠ "java/lang/invoke/VarHandle" ∧ (parseMethodDescriptor yX13_ownIn.desc).map (fun d => d.parameters.length) = some 2 := by decide +kernel
theorem lk_X13_own : yX13_own.cls ≠ "java/lang/invoke/MethodHandle" ∧ yX13_own.cls ≠ "java/lang/invoke/VarHandle" ∧ (parseMethodDescriptor yX13_own.desc).map (fun d => d.parameters.length) = some 1 := by decide +kernel
theorem lk_X13_rounds : yX13_rounds.cls ≠ "java/lang/invoke/MethodHandle" ∧ yX13_rounds.cls ≠ "java/lang/invoke/VarHandle" ∧ (parseMethodDescriptor yX13_rounds.desc).map (fun d => d.parameters.length) = some 1 := by decide +kernel
theorem lk_X13_lotFrom : yX13_lotFrom.cls ≠ "java/lang/invoke/MethodHandle" ∧ yX13_lotFrom.cls ≠ "java/lang/invoke/VarHandle" ∧ (parseMethodDescriptor yX13_lotFrom.desc).map (fun d => d.parameters.length) = some 1 := by decide +kernel
theorem lk_X13_tries : yX13_tries.cls ≠ "java/lang/invoke/MethodHandle" ∧ yX13_tries.cls ≠ "java/lang/invoke/VarHandle" ∧ (parseMethodDescriptor yX13_tries.desc).map (fun d => d.parameters.length) = some 3 := by decide +kernel
theorem lk_X13_chosen : yX13_chosen.cls ≠ "java/lang/invoke/MethodHandle" ∧ yX13_chosen.cls ≠ "java/lang/invoke/VarHandle" ∧ (parseMethodDescriptor yX13_chosen.desc).map (fun d => d.parameters.length) = some 2 := by decide +kernel
theorem lk_X13_laysWays : yX13_laysWays.cls ≠ "java/lang/invoke/MethodHandle" ∧ yX13_laysWays.cls ≠ "java/lang/invoke/VarHandle" ∧ (parseMethodDescriptor yX13_laysWays.desc).map (fun d => d.parameters.length) = some 2 := by decide +kernel
theorem lk_X13_waysNow : yX13_waysNow.cls ≠ "java/lang/invoke/MethodHandle" ∧ yX13_waysNow.cls ≠ "java/lang/invoke/VarHandle" ∧ (parseMethodDescriptor yX13_waysNow.desc).map (fun d => d.parameters.length) = some 2 := by decide +kernel
theorem lk_X13_ways : yX13_ways.cls ≠ "java/lang/invoke/MethodHandle" ∧ yX13_ways.cls ≠ "java/lang/invoke/VarHandle" ∧ (parseMethodDescriptor yX13_ways.desc).map (fun d => d.parameters.length) = some 3 := by decide +kernel
theorem lk_X13_told : yX13_told.cls ≠ "java/lang/invoke/MethodHandle" ∧ yX13_told.cls ≠ "java/lang/invoke/VarHandle" ∧ (parseMethodDescriptor yX13_told.desc).map (fun d => d.parameters.length) = some 3 := by decide +kernel
theorem lk_X13_allWays : yX13_allWays.cls ≠ "java/lang/invoke/MethodHandle" ∧ yX13_allWays.cls ≠ "java/lang/invoke/VarHandle" ∧ (parseMethodDescriptor yX13_allWays.desc).map (fun d => d.parameters.length) = some 1 := by decide +kernel
theorem lk_X13_odds : yX13_odds.cls ≠ "java/lang/invoke/MethodHandle" ∧ yX13_odds.cls ≠ "java/lang/invoke/VarHandle" ∧ (parseMethodDescriptor yX13_odds.desc).map (fun d => d.parameters.length) = some 4 := by decide +kernel
theorem lk_X13_mean : yX13_mean.cls ≠ "java/lang/invoke/MethodHandle" ∧ yX13_mean.cls ≠ "java/lang/invoke/VarHandle" ∧ (parseMethodDescriptor yX13_mean.desc).map (fun d => d.parameters.length) = some 3 := by decide +kernel
theorem lk_X13_keeps : yX13_keeps.cls ≠ "java/lang/invoke/MethodHandle" ∧ yX13_keeps.cls ≠ "java/lang/invoke/VarHandle" ∧ (parseMethodDescriptor yX13_keeps.desc).map (fun d => d.parameters.length) = some 0 := by decide +kernel
theorem lk_X13_move : yX13_move.cls ≠ "java/lang/invoke/MethodHandle" ∧ yX13_move.cls ≠ "java/lang/invoke/VarHandle" ∧ (parseMethodDescriptor yX13_move.desc).map (fun d => d.parameters.length) = some 1 := by decide +kernel
theorem lk_X13_parts : yX13_parts.cls ≠ "java/lang/invoke/MethodHandle" ∧ yX13_parts.cls ≠ "java/lang/invoke/VarHandle" ∧ (parseMethodDescriptor yX13_parts.desc).map (fun d => d.parameters.length) = some 1 := by decide +kernel
theorem lk_X13_lot : yX13_lot.cls ≠ "java/lang/invoke/MethodHandle" ∧ yX13_lot.cls ≠ "java/lang/invoke/VarHandle" ∧ (parseMethodDescriptor yX13_lot.desc).map (fun d => d.parameters.length) = some 0 := by decide +kernel
theorem lk_X13_call : yX13_call.cls ≠ "java/lang/invoke/MethodHandle" ∧ yX13_call.cls ≠ "java/lang/invoke/VarHandle" ∧ (parseMethodDescriptor yX13_call.desc).map (fun d => d.parameters.length) = some 0 := by decide +kernel
theorem lk_X13_seed : yX13_seed.cls ≠ "java/lang/invoke/MethodHandle" ∧ yX13_seed.cls ≠ "java/lang/invoke/VarHandle" ∧ (parseMethodDescriptor yX13_seed.desc).map (fun d => d.parameters.length) = some 1 := by decide +kernel
theorem lk_X13_undo : yX13_undo.cls ≠ "java/lang/invoke/MethodHandle" ∧ yX13_undo.cls ≠ "java/lang/invoke/VarHandle" ∧ (parseMethodDescriptor yX13_undo.desc).map (fun d => d.parameters.length) = some 0 := by decide +kernel
theorem lk_X13_mark : yX13_mark.cls ≠ "java/lang/invoke/MethodHandle" ∧ yX13_mark.cls ≠ "java/lang/invoke/VarHandle" ∧ (parseMethodDescriptor yX13_mark.desc).map (fun d => d.parameters.length) = some 0 := by decide +kernel
theorem lk_X13_back : yX13_back.cls ≠ "java/lang/invoke/MethodHandle" ∧ yX13_back.cls ≠ "java/lang/invoke/VarHandle" ∧ (parseMethodDescriptor yX13_back.desc).map (fun d => d.parameters.length) = some 1 := by decide +kernel
theorem lk_X13_led : yX13_led.cls ≠ "java/lang/invoke/MethodHandle" ∧ yX13_led.cls ≠ "java/lang/invoke/VarHandle" ∧ (parseMethodDescriptor yX13_led.desc).map (fun d => d.parameters.length) = some 1 := by decide +kernel
theorem lk_X13_size : yX13_size.cls ≠ "java/lang/invoke/MethodHandle" ∧ yX13_size.cls ≠ "java/lang/invoke/VarHandle" ∧ (parseMethodDescriptor yX13_size.desc).map (fun d => d.parameters.length) = some 1 := by decide +kernel
theorem lk_X13_trouble : yX13_trouble.cls ≠ "java/lang/invoke/MethodHandle" ∧ yX13_trouble.cls ≠ "java/lang/invoke/VarHandle" ∧ (parseMethodDescriptor yX13_trouble.desc).map (fun d => d.parameters.length) = some 0 := by decide +kernel
theorem lk_J9_floorMod_7cf53 : yJ9_floorMod_7cf53.cls ≠ "java/lang/invoke/MethodHandle" ∧ yJ9_floorMod_7cf53.cls ≠ "java/lang/invoke/VarHandle" ∧ (parseMethodDescriptor yJ9_floorMod_7cf53.desc).map (fun d => d.parameters.length) = some 2 := by decide +kernel
theorem lk_J9_max_7cf53 : yJ9_max_7cf53.cls ≠ "java/lang/invoke/MethodHandle" ∧ yJ9_max_7cf53.cls ≠ "java/lang/invoke/VarHandle" ∧ (parseMethodDescriptor yJ9_max_7cf53.desc).map (fun d => d.parameters.length) = some 2 := by decide +kernel
theorem lk_J9_min_7cf53 : yJ9_min_7cf53.cls ≠ "java/lang/invoke/MethodHandle" ∧ yJ9_min_7cf53.cls ≠ "java/lang/invoke/VarHandle" ∧ (parseMethodDescriptor yJ9_min_7cf53.desc).map (fun d => d.parameters.length) = some 2 := by decide +kernel
theorem lk_J0_length_8abf5 : yJ0_length_8abf5.cls ≠ "java/lang/invoke/MethodHandle" ∧ yJ0_length_8abf5.cls ≠ "java/lang/invoke/VarHandle" ∧ (parseMethodDescriptor yJ0_length_8abf5.desc).map (fun d => d.parameters.length) = some 0 := by decide +kernel
theorem lk_J0_charAt_5068e : yJ0_charAt_5068e.cls ≠ "java/lang/invoke/MethodHandle" ∧ yJ0_charAt_5068e.cls ≠ "java/lang/invoke/VarHandle" ∧ (parseMethodDescriptor yJ0_charAt_5068e.desc).map (fun d => d.parameters.length) = some 1 := by decide +kernel
theorem lk_J0_coder_7d493 : yJ0_coder_7d493.cls ≠ "java/lang/invoke/MethodHandle" ∧ yJ0_coder_7d493.cls ≠ "java/lang/invoke/VarHandle" ∧ (parseMethodDescriptor yJ0_coder_7d493.desc).map (fun d => d.parameters.length) = some 0 := by decide +kernel
theorem lk_J0_isLatin1_aae02 : yJ0_isLatin1_aae02.cls ≠ "java/lang/invoke/MethodHandle" ∧ yJ0_isLatin1_aae02.cls ≠ "java/lang/invoke/VarHandle" ∧ (parseMethodDescriptor yJ0_isLatin1_aae02.desc).map (fun d => d.parameters.length) = some 0 := by decide +kernel
theorem lk_J0_checkIndex_df160 : yJ0_checkIndex_df160.cls ≠ "java/lang/invoke/MethodHandle" ∧ yJ0_checkIndex_df160.cls ≠ "java/lang/invoke/VarHandle" ∧ (parseMethodDescriptor yJ0_checkIndex_df160.desc).map (fun d => d.parameters.length) = some 2 := by decide +kernel
theorem lk_J1_charAt_3b067 : yJ1_charAt_3b067.cls ≠ "java/lang/invoke/MethodHandle" ∧ yJ1_charAt_3b067.cls ≠ "java/lang/invoke/VarHandle" ∧ (parseMethodDescriptor yJ1_charAt_3b067.desc).map (fun d => d.parameters.length) = some 2 := by decide +kernel
theorem lk_J2_getChar_3b067 : yJ2_getChar_3b067.cls ≠ "java/lang/invoke/MethodHandle" ∧ yJ2_getChar_3b067.cls ≠ "java/lang/invoke/VarHandle" ∧ (parseMethodDescriptor yJ2_getChar_3b067.desc).map (fun d => d.parameters.length) = some 2 := by decide +kernel
theorem lk_J2_length_9d52b : yJ2_length_9d52b.cls ≠ "java/lang/invoke/MethodHandle" ∧ yJ2_length_9d52b.cls ≠ "java/lang/invoke/VarHandle" ∧ (parseMethodDescriptor yJ2_length_9d52b.desc).map (fun d => d.parameters.length) = some 1 := by decide +kernel
theorem lk_J2_charAt_3b067 : yJ2_charAt_3b067.cls ≠ "java/lang/invoke/MethodHandle" ∧ yJ2_charAt_3b067.cls ≠ "java/lang/invoke/VarHandle" ∧ (parseMethodDescriptor yJ2_charAt_3b067.desc).map (fun d => d.parameters.length) = some 2 := by decide +kernel
theorem lk_J2_checkIndex_2214a : yJ2_checkIndex_2214a.cls ≠ "java/lang/invoke/MethodHandle" ∧ yJ2_checkIndex_2214a.cls ≠ "java/lang/invoke/VarHandle" ∧ (parseMethodDescriptor yJ2_checkIndex_2214a.desc).map (fun d => d.parameters.length) = some 2 := by decide +kernel
theorem lk_J7_fill_53178 : yJ7_fill_53178.cls ≠ "java/lang/invoke/MethodHandle" ∧ yJ7_fill_53178.cls ≠ "java/lang/invoke/VarHandle" ∧ (parseMethodDescriptor yJ7_fill_53178.desc).map (fun d => d.parameters.length) = some 2 := by decide +kernel
theorem lk_J3_checkIndex_8e157 : yJ3_checkIndex_8e157.cls ≠ "java/lang/invoke/MethodHandle" ∧ yJ3_checkIndex_8e157.cls ≠ "java/lang/invoke/VarHandle" ∧ (parseMethodDescriptor yJ3_checkIndex_8e157.desc).map (fun d => d.parameters.length) = some 3 := by decide +kernel
