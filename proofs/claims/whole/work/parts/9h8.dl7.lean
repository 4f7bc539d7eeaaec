/-! the law, decoded, 8 of 8 -/
theorem dl_1231 : decode code 1231 = .ok (.iadd, 1) := by decide +kernel
theorem dl_1232 : decode code 1232 = .ok (.iaload, 1) := by decide +kernel
theorem dl_1233 : decode code 1233 = .ok (.aload_n 0, 1) := by decide +kernel
theorem dl_1234 : decode code 1234 = .ok (.iload_n 3, 1) := by decide +kernel
theorem dl_1235 : decode code 1235 = .ok (.iconst 2, 1) := by decide +kernel
theorem dl_1236 : decode code 1236 = .ok (.iadd, 1) := by decide +kernel
theorem dl_1237 : decode code 1237 = .ok (.iaload, 1) := by decide +kernel
theorem dl_1238 : decode code 1238 = .ok (.aload_n 0, 1) := by decide +kernel
theorem dl_1239 : decode code 1239 = .ok (.iload_n 3, 1) := by decide +kernel
theorem dl_1240 : decode code 1240 = .ok (.iconst 3, 1) := by decide +kernel
theorem dl_1241 : decode code 1241 = .ok (.iadd, 1) := by decide +kernel
theorem dl_1242 : decode code 1242 = .ok (.iaload, 1) := by decide +kernel
theorem dl_1243 : decode code 1243 = .ok (.invokevirtual 126, 3) := by decide +kernel
theorem dl_1246 : decode code 1246 = .ok (.if_icmp .eq 144, 3) := by decide +kernel
theorem dl_1249 : decode code 1249 = .ok (.iconst 0, 1) := by decide +kernel
theorem dl_1250 : decode code 1250 = .ok (.ireturn, 1) := by decide +kernel
theorem dl_1251 : decode code 1251 = .ok (.aload_n 1, 1) := by decide +kernel
theorem dl_1252 : decode code 1252 = .ok (.aload_n 0, 1) := by decide +kernel
theorem dl_1253 : decode code 1253 = .ok (.iload_n 3, 1) := by decide +kernel
theorem dl_1254 : decode code 1254 = .ok (.iconst 1, 1) := by decide +kernel
theorem dl_1255 : decode code 1255 = .ok (.iadd, 1) := by decide +kernel
theorem dl_1256 : decode code 1256 = .ok (.iaload, 1) := by decide +kernel
theorem dl_1257 : decode code 1257 = .ok (.aload_n 0, 1) := by decide +kernel
theorem dl_1258 : decode code 1258 = .ok (.iload_n 3, 1) := by decide +kernel
theorem dl_1259 : decode code 1259 = .ok (.iconst 2, 1) := by decide +kernel
theorem dl_1260 : decode code 1260 = .ok (.iadd, 1) := by decide +kernel
theorem dl_1261 : decode code 1261 = .ok (.iaload, 1) := by decide +kernel
theorem dl_1262 : decode code 1262 = .ok (.aload_n 0, 1) := by decide +kernel
theorem dl_1263 : decode code 1263 = .ok (.iload_n 3, 1) := by decide +kernel
theorem dl_1264 : decode code 1264 = .ok (.iconst 3, 1) := by decide +kernel
theorem dl_1265 : decode code 1265 = .ok (.iadd, 1) := by decide +kernel
theorem dl_1266 : decode code 1266 = .ok (.iaload, 1) := by decide +kernel
theorem dl_1267 : decode code 1267 = .ok (.aload_n 0, 1) := by decide +kernel
theorem dl_1268 : decode code 1268 = .ok (.iload_n 3, 1) := by decide +kernel
theorem dl_1269 : decode code 1269 = .ok (.iconst 4, 1) := by decide +kernel
theorem dl_1270 : decode code 1270 = .ok (.iadd, 1) := by decide +kernel
theorem dl_1271 : decode code 1271 = .ok (.iaload, 1) := by decide +kernel
theorem dl_1272 : decode code 1272 = .ok (.ifCond .eq 7, 3) := by decide +kernel
theorem dl_1275 : decode code 1275 = .ok (.iconst 1, 1) := by decide +kernel
theorem dl_1276 : decode code 1276 = .ok (.goto 4, 3) := by decide +kernel
theorem dl_1279 : decode code 1279 = .ok (.iconst 0, 1) := by decide +kernel
theorem dl_1280 : decode code 1280 = .ok (.invokevirtual 127, 3) := by decide +kernel
theorem dl_1283 : decode code 1283 = .ok (.aload_n 2, 1) := by decide +kernel
theorem dl_1284 : decode code 1284 = .ok (.aload_n 0, 1) := by decide +kernel
theorem dl_1285 : decode code 1285 = .ok (.iload_n 3, 1) := by decide +kernel
theorem dl_1286 : decode code 1286 = .ok (.iconst 1, 1) := by decide +kernel
theorem dl_1287 : decode code 1287 = .ok (.iadd, 1) := by decide +kernel
theorem dl_1288 : decode code 1288 = .ok (.iaload, 1) := by decide +kernel
theorem dl_1289 : decode code 1289 = .ok (.aload_n 0, 1) := by decide +kernel
theorem dl_1290 : decode code 1290 = .ok (.iload_n 3, 1) := by decide +kernel
theorem dl_1291 : decode code 1291 = .ok (.iconst 2, 1) := by decide +kernel
theorem dl_1292 : decode code 1292 = .ok (.iadd, 1) := by decide +kernel
theorem dl_1293 : decode code 1293 = .ok (.iaload, 1) := by decide +kernel
theorem dl_1294 : decode code 1294 = .ok (.aload_n 0, 1) := by decide +kernel
theorem dl_1295 : decode code 1295 = .ok (.iload_n 3, 1) := by decide +kernel
theorem dl_1296 : decode code 1296 = .ok (.iconst 3, 1) := by decide +kernel
theorem dl_1297 : decode code 1297 = .ok (.iadd, 1) := by decide +kernel
theorem dl_1298 : decode code 1298 = .ok (.iaload, 1) := by decide +kernel
theorem dl_1299 : decode code 1299 = .ok (.aload_n 0, 1) := by decide +kernel
theorem dl_1300 : decode code 1300 = .ok (.iload_n 3, 1) := by decide +kernel
theorem dl_1301 : decode code 1301 = .ok (.iconst 4, 1) := by decide +kernel
theorem dl_1302 : decode code 1302 = .ok (.iadd, 1) := by decide +kernel
theorem dl_1303 : decode code 1303 = .ok (.iaload, 1) := by decide +kernel
theorem dl_1304 : decode code 1304 = .ok (.ifCond .eq 7, 3) := by decide +kernel
theorem dl_1307 : decode code 1307 = .ok (.iconst 1, 1) := by decide +kernel
theorem dl_1308 : decode code 1308 = .ok (.goto 4, 3) := by decide +kernel
theorem dl_1311 : decode code 1311 = .ok (.iconst 0, 1) := by decide +kernel
theorem dl_1312 : decode code 1312 = .ok (.invokevirtual 131, 3) := by decide +kernel
theorem dl_1315 : decode code 1315 = .ok (.lcmp, 1) := by decide +kernel
theorem dl_1316 : decode code 1316 = .ok (.ifCond .eq 74, 3) := by decide +kernel
theorem dl_1319 : decode code 1319 = .ok (.iconst 0, 1) := by decide +kernel
theorem dl_1320 : decode code 1320 = .ok (.ireturn, 1) := by decide +kernel
theorem dl_1321 : decode code 1321 = .ok (.aload_n 1, 1) := by decide +kernel
theorem dl_1322 : decode code 1322 = .ok (.aload_n 0, 1) := by decide +kernel
theorem dl_1323 : decode code 1323 = .ok (.iload_n 3, 1) := by decide +kernel
theorem dl_1324 : decode code 1324 = .ok (.iconst 1, 1) := by decide +kernel
theorem dl_1325 : decode code 1325 = .ok (.iadd, 1) := by decide +kernel
theorem dl_1326 : decode code 1326 = .ok (.iaload, 1) := by decide +kernel
theorem dl_1327 : decode code 1327 = .ok (.invokevirtual 132, 3) := by decide +kernel
theorem dl_1330 : decode code 1330 = .ok (.aload_n 2, 1) := by decide +kernel
theorem dl_1331 : decode code 1331 = .ok (.aload_n 0, 1) := by decide +kernel
theorem dl_1332 : decode code 1332 = .ok (.iload_n 3, 1) := by decide +kernel
theorem dl_1333 : decode code 1333 = .ok (.iconst 1, 1) := by decide +kernel
theorem dl_1334 : decode code 1334 = .ok (.iadd, 1) := by decide +kernel
theorem dl_1335 : decode code 1335 = .ok (.iaload, 1) := by decide +kernel
theorem dl_1336 : decode code 1336 = .ok (.invokevirtual 135, 3) := by decide +kernel
theorem dl_1339 : decode code 1339 = .ok (.if_icmp .eq 51, 3) := by decide +kernel
theorem dl_1342 : decode code 1342 = .ok (.iconst 0, 1) := by decide +kernel
theorem dl_1343 : decode code 1343 = .ok (.ireturn, 1) := by decide +kernel
theorem dl_1344 : decode code 1344 = .ok (.aload_n 1, 1) := by decide +kernel
theorem dl_1345 : decode code 1345 = .ok (.aload_n 0, 1) := by decide +kernel
theorem dl_1346 : decode code 1346 = .ok (.iload_n 3, 1) := by decide +kernel
theorem dl_1347 : decode code 1347 = .ok (.iconst 1, 1) := by decide +kernel
theorem dl_1348 : decode code 1348 = .ok (.iadd, 1) := by decide +kernel
theorem dl_1349 : decode code 1349 = .ok (.iaload, 1) := by decide +kernel
theorem dl_1350 : decode code 1350 = .ok (.invokevirtual 136, 3) := by decide +kernel
theorem dl_1353 : decode code 1353 = .ok (.aload_n 2, 1) := by decide +kernel
theorem dl_1354 : decode code 1354 = .ok (.aload_n 0, 1) := by decide +kernel
theorem dl_1355 : decode code 1355 = .ok (.iload_n 3, 1) := by decide +kernel
theorem dl_1356 : decode code 1356 = .ok (.iconst 1, 1) := by decide +kernel
theorem dl_1357 : decode code 1357 = .ok (.iadd, 1) := by decide +kernel
theorem dl_1358 : decode code 1358 = .ok (.iaload, 1) := by decide +kernel
theorem dl_1359 : decode code 1359 = .ok (.invokevirtual 140, 3) := by decide +kernel
theorem dl_1362 : decode code 1362 = .ok (.if_icmp .eq 28, 3) := by decide +kernel
theorem dl_1365 : decode code 1365 = .ok (.iconst 0, 1) := by decide +kernel
theorem dl_1366 : decode code 1366 = .ok (.ireturn, 1) := by decide +kernel
theorem dl_1367 : decode code 1367 = .ok (.aload_n 1, 1) := by decide +kernel
theorem dl_1368 : decode code 1368 = .ok (.aload_n 0, 1) := by decide +kernel
theorem dl_1369 : decode code 1369 = .ok (.iload_n 3, 1) := by decide +kernel
theorem dl_1370 : decode code 1370 = .ok (.iconst 1, 1) := by decide +kernel
theorem dl_1371 : decode code 1371 = .ok (.iadd, 1) := by decide +kernel
theorem dl_1372 : decode code 1372 = .ok (.iaload, 1) := by decide +kernel
theorem dl_1373 : decode code 1373 = .ok (.invokevirtual 141, 3) := by decide +kernel
theorem dl_1376 : decode code 1376 = .ok (.aload_n 2, 1) := by decide +kernel
theorem dl_1377 : decode code 1377 = .ok (.aload_n 0, 1) := by decide +kernel
theorem dl_1378 : decode code 1378 = .ok (.iload_n 3, 1) := by decide +kernel
theorem dl_1379 : decode code 1379 = .ok (.iconst 1, 1) := by decide +kernel
theorem dl_1380 : decode code 1380 = .ok (.iadd, 1) := by decide +kernel
theorem dl_1381 : decode code 1381 = .ok (.iaload, 1) := by decide +kernel
theorem dl_1382 : decode code 1382 = .ok (.invokevirtual 144, 3) := by decide +kernel
theorem dl_1385 : decode code 1385 = .ok (.if_icmp .eq 5, 3) := by decide +kernel
theorem dl_1388 : decode code 1388 = .ok (.iconst 0, 1) := by decide +kernel
theorem dl_1389 : decode code 1389 = .ok (.ireturn, 1) := by decide +kernel
theorem dl_1390 : decode code 1390 = .ok (.iinc 3 6, 3) := by decide +kernel
theorem dl_1393 : decode code 1393 = .ok (.goto (-1375), 3) := by decide +kernel
theorem dl_1396 : decode code 1396 = .ok (.iconst 1, 1) := by decide +kernel
theorem dl_1397 : decode code 1397 = .ok (.ireturn, 1) := by decide +kernel
