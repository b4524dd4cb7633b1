/-! decodings of the law, 4 of 4 -/
theorem dl_1162 : decode code 1162 = .ok (.iaload, 1) := by decide +kernel
theorem dl_1163 : decode code 1163 = .ok (.invokevirtual 142, 3) := by decide +kernel
theorem dl_1166 : decode code 1166 = .ok (.aload_n 2, 1) := by decide +kernel
theorem dl_1167 : decode code 1167 = .ok (.aload_n 0, 1) := by decide +kernel
theorem dl_1168 : decode code 1168 = .ok (.iload_n 3, 1) := by decide +kernel
theorem dl_1169 : decode code 1169 = .ok (.iconst 1, 1) := by decide +kernel
theorem dl_1170 : decode code 1170 = .ok (.iadd, 1) := by decide +kernel
theorem dl_1171 : decode code 1171 = .ok (.iaload, 1) := by decide +kernel
theorem dl_1172 : decode code 1172 = .ok (.invokevirtual 145, 3) := by decide +kernel
theorem dl_1175 : decode code 1175 = .ok (.if_icmp .eq 302, 3) := by decide +kernel
theorem dl_1178 : decode code 1178 = .ok (.iconst 0, 1) := by decide +kernel
theorem dl_1179 : decode code 1179 = .ok (.ireturn, 1) := by decide +kernel
theorem dl_1180 : decode code 1180 = .ok (.aload_n 1, 1) := by decide +kernel
theorem dl_1181 : decode code 1181 = .ok (.aload_n 0, 1) := by decide +kernel
theorem dl_1182 : decode code 1182 = .ok (.iload_n 3, 1) := by decide +kernel
theorem dl_1183 : decode code 1183 = .ok (.iconst 1, 1) := by decide +kernel
theorem dl_1184 : decode code 1184 = .ok (.iadd, 1) := by decide +kernel
theorem dl_1185 : decode code 1185 = .ok (.iaload, 1) := by decide +kernel
theorem dl_1186 : decode code 1186 = .ok (.aload_n 0, 1) := by decide +kernel
theorem dl_1187 : decode code 1187 = .ok (.iload_n 3, 1) := by decide +kernel
theorem dl_1188 : decode code 1188 = .ok (.iconst 2, 1) := by decide +kernel
theorem dl_1189 : decode code 1189 = .ok (.iadd, 1) := by decide +kernel
theorem dl_1190 : decode code 1190 = .ok (.iaload, 1) := by decide +kernel
theorem dl_1191 : decode code 1191 = .ok (.invokevirtual 146, 3) := by decide +kernel
theorem dl_1194 : decode code 1194 = .ok (.aload_n 2, 1) := by decide +kernel
theorem dl_1195 : decode code 1195 = .ok (.aload_n 0, 1) := by decide +kernel
theorem dl_1196 : decode code 1196 = .ok (.iload_n 3, 1) := by decide +kernel
theorem dl_1197 : decode code 1197 = .ok (.iconst 1, 1) := by decide +kernel
theorem dl_1198 : decode code 1198 = .ok (.iadd, 1) := by decide +kernel
theorem dl_1199 : decode code 1199 = .ok (.iaload, 1) := by decide +kernel
theorem dl_1200 : decode code 1200 = .ok (.aload_n 0, 1) := by decide +kernel
theorem dl_1201 : decode code 1201 = .ok (.iload_n 3, 1) := by decide +kernel
theorem dl_1202 : decode code 1202 = .ok (.iconst 2, 1) := by decide +kernel
theorem dl_1203 : decode code 1203 = .ok (.iadd, 1) := by decide +kernel
theorem dl_1204 : decode code 1204 = .ok (.iaload, 1) := by decide +kernel
theorem dl_1205 : decode code 1205 = .ok (.invokevirtual 149, 3) := by decide +kernel
theorem dl_1208 : decode code 1208 = .ok (.if_icmp .eq 269, 3) := by decide +kernel
theorem dl_1211 : decode code 1211 = .ok (.iconst 0, 1) := by decide +kernel
theorem dl_1212 : decode code 1212 = .ok (.ireturn, 1) := by decide +kernel
theorem dl_1213 : decode code 1213 = .ok (.aload_n 1, 1) := by decide +kernel
theorem dl_1214 : decode code 1214 = .ok (.aload_n 0, 1) := by decide +kernel
theorem dl_1215 : decode code 1215 = .ok (.iload_n 3, 1) := by decide +kernel
theorem dl_1216 : decode code 1216 = .ok (.iconst 1, 1) := by decide +kernel
theorem dl_1217 : decode code 1217 = .ok (.iadd, 1) := by decide +kernel
theorem dl_1218 : decode code 1218 = .ok (.iaload, 1) := by decide +kernel
theorem dl_1219 : decode code 1219 = .ok (.aload_n 0, 1) := by decide +kernel
theorem dl_1220 : decode code 1220 = .ok (.iload_n 3, 1) := by decide +kernel
theorem dl_1221 : decode code 1221 = .ok (.iconst 2, 1) := by decide +kernel
theorem dl_1222 : decode code 1222 = .ok (.iadd, 1) := by decide +kernel
theorem dl_1223 : decode code 1223 = .ok (.iaload, 1) := by decide +kernel
theorem dl_1224 : decode code 1224 = .ok (.aload_n 0, 1) := by decide +kernel
theorem dl_1225 : decode code 1225 = .ok (.iload_n 3, 1) := by decide +kernel
theorem dl_1226 : decode code 1226 = .ok (.iconst 3, 1) := by decide +kernel
theorem dl_1227 : decode code 1227 = .ok (.iadd, 1) := by decide +kernel
theorem dl_1228 : decode code 1228 = .ok (.iaload, 1) := by decide +kernel
theorem dl_1229 : decode code 1229 = .ok (.invokevirtual 150, 3) := by decide +kernel
theorem dl_1232 : decode code 1232 = .ok (.aload_n 2, 1) := by decide +kernel
theorem dl_1233 : decode code 1233 = .ok (.aload_n 0, 1) := by decide +kernel
theorem dl_1234 : decode code 1234 = .ok (.iload_n 3, 1) := by decide +kernel
theorem dl_1235 : decode code 1235 = .ok (.iconst 1, 1) := by decide +kernel
theorem dl_1236 : decode code 1236 = .ok (.iadd, 1) := by decide +kernel
theorem dl_1237 : decode code 1237 = .ok (.iaload, 1) := by decide +kernel
theorem dl_1238 : decode code 1238 = .ok (.aload_n 0, 1) := by decide +kernel
theorem dl_1239 : decode code 1239 = .ok (.iload_n 3, 1) := by decide +kernel
theorem dl_1240 : decode code 1240 = .ok (.iconst 2, 1) := by decide +kernel
theorem dl_1241 : decode code 1241 = .ok (.iadd, 1) := by decide +kernel
theorem dl_1242 : decode code 1242 = .ok (.iaload, 1) := by decide +kernel
theorem dl_1243 : decode code 1243 = .ok (.aload_n 0, 1) := by decide +kernel
theorem dl_1244 : decode code 1244 = .ok (.iload_n 3, 1) := by decide +kernel
theorem dl_1245 : decode code 1245 = .ok (.iconst 3, 1) := by decide +kernel
theorem dl_1246 : decode code 1246 = .ok (.iadd, 1) := by decide +kernel
theorem dl_1247 : decode code 1247 = .ok (.iaload, 1) := by decide +kernel
theorem dl_1248 : decode code 1248 = .ok (.invokevirtual 153, 3) := by decide +kernel
theorem dl_1251 : decode code 1251 = .ok (.if_icmp .eq 226, 3) := by decide +kernel
theorem dl_1254 : decode code 1254 = .ok (.iconst 0, 1) := by decide +kernel
theorem dl_1255 : decode code 1255 = .ok (.ireturn, 1) := by decide +kernel
theorem dl_1256 : decode code 1256 = .ok (.aload_n 1, 1) := by decide +kernel
theorem dl_1257 : decode code 1257 = .ok (.aload_n 0, 1) := by decide +kernel
theorem dl_1258 : decode code 1258 = .ok (.iload_n 3, 1) := by decide +kernel
theorem dl_1259 : decode code 1259 = .ok (.iconst 1, 1) := by decide +kernel
theorem dl_1260 : decode code 1260 = .ok (.iadd, 1) := by decide +kernel
theorem dl_1261 : decode code 1261 = .ok (.iaload, 1) := by decide +kernel
theorem dl_1262 : decode code 1262 = .ok (.invokevirtual 154, 3) := by decide +kernel
theorem dl_1265 : decode code 1265 = .ok (.aload_n 2, 1) := by decide +kernel
theorem dl_1266 : decode code 1266 = .ok (.aload_n 0, 1) := by decide +kernel
theorem dl_1267 : decode code 1267 = .ok (.iload_n 3, 1) := by decide +kernel
theorem dl_1268 : decode code 1268 = .ok (.iconst 1, 1) := by decide +kernel
theorem dl_1269 : decode code 1269 = .ok (.iadd, 1) := by decide +kernel
theorem dl_1270 : decode code 1270 = .ok (.iaload, 1) := by decide +kernel
theorem dl_1271 : decode code 1271 = .ok (.invokevirtual 157, 3) := by decide +kernel
theorem dl_1274 : decode code 1274 = .ok (.if_icmp .eq 203, 3) := by decide +kernel
theorem dl_1277 : decode code 1277 = .ok (.iconst 0, 1) := by decide +kernel
theorem dl_1278 : decode code 1278 = .ok (.ireturn, 1) := by decide +kernel
theorem dl_1279 : decode code 1279 = .ok (.aload_n 1, 1) := by decide +kernel
theorem dl_1280 : decode code 1280 = .ok (.aload_n 0, 1) := by decide +kernel
theorem dl_1281 : decode code 1281 = .ok (.iload_n 3, 1) := by decide +kernel
theorem dl_1282 : decode code 1282 = .ok (.iconst 1, 1) := by decide +kernel
theorem dl_1283 : decode code 1283 = .ok (.iadd, 1) := by decide +kernel
theorem dl_1284 : decode code 1284 = .ok (.iaload, 1) := by decide +kernel
theorem dl_1285 : decode code 1285 = .ok (.invokevirtual 158, 3) := by decide +kernel
theorem dl_1288 : decode code 1288 = .ok (.aload_n 2, 1) := by decide +kernel
theorem dl_1289 : decode code 1289 = .ok (.aload_n 0, 1) := by decide +kernel
theorem dl_1290 : decode code 1290 = .ok (.iload_n 3, 1) := by decide +kernel
theorem dl_1291 : decode code 1291 = .ok (.iconst 1, 1) := by decide +kernel
theorem dl_1292 : decode code 1292 = .ok (.iadd, 1) := by decide +kernel
theorem dl_1293 : decode code 1293 = .ok (.iaload, 1) := by decide +kernel
theorem dl_1294 : decode code 1294 = .ok (.invokevirtual 161, 3) := by decide +kernel
theorem dl_1297 : decode code 1297 = .ok (.if_icmp .eq 180, 3) := by decide +kernel
theorem dl_1300 : decode code 1300 = .ok (.iconst 0, 1) := by decide +kernel
theorem dl_1301 : decode code 1301 = .ok (.ireturn, 1) := by decide +kernel
theorem dl_1302 : decode code 1302 = .ok (.aload_n 1, 1) := by decide +kernel
theorem dl_1303 : decode code 1303 = .ok (.aload_n 0, 1) := by decide +kernel
theorem dl_1304 : decode code 1304 = .ok (.iload_n 3, 1) := by decide +kernel
theorem dl_1305 : decode code 1305 = .ok (.iconst 1, 1) := by decide +kernel
theorem dl_1306 : decode code 1306 = .ok (.iadd, 1) := by decide +kernel
theorem dl_1307 : decode code 1307 = .ok (.iaload, 1) := by decide +kernel
theorem dl_1308 : decode code 1308 = .ok (.aload_n 0, 1) := by decide +kernel
theorem dl_1309 : decode code 1309 = .ok (.iload_n 3, 1) := by decide +kernel
theorem dl_1310 : decode code 1310 = .ok (.iconst 2, 1) := by decide +kernel
theorem dl_1311 : decode code 1311 = .ok (.iadd, 1) := by decide +kernel
theorem dl_1312 : decode code 1312 = .ok (.iaload, 1) := by decide +kernel
theorem dl_1313 : decode code 1313 = .ok (.aload_n 0, 1) := by decide +kernel
theorem dl_1314 : decode code 1314 = .ok (.iload_n 3, 1) := by decide +kernel
theorem dl_1315 : decode code 1315 = .ok (.iconst 3, 1) := by decide +kernel
theorem dl_1316 : decode code 1316 = .ok (.iadd, 1) := by decide +kernel
theorem dl_1317 : decode code 1317 = .ok (.iaload, 1) := by decide +kernel
theorem dl_1318 : decode code 1318 = .ok (.invokevirtual 162, 3) := by decide +kernel
theorem dl_1321 : decode code 1321 = .ok (.aload_n 2, 1) := by decide +kernel
theorem dl_1322 : decode code 1322 = .ok (.aload_n 0, 1) := by decide +kernel
theorem dl_1323 : decode code 1323 = .ok (.iload_n 3, 1) := by decide +kernel
theorem dl_1324 : decode code 1324 = .ok (.iconst 1, 1) := by decide +kernel
theorem dl_1325 : decode code 1325 = .ok (.iadd, 1) := by decide +kernel
theorem dl_1326 : decode code 1326 = .ok (.iaload, 1) := by decide +kernel
theorem dl_1327 : decode code 1327 = .ok (.aload_n 0, 1) := by decide +kernel
theorem dl_1328 : decode code 1328 = .ok (.iload_n 3, 1) := by decide +kernel
theorem dl_1329 : decode code 1329 = .ok (.iconst 2, 1) := by decide +kernel
theorem dl_1330 : decode code 1330 = .ok (.iadd, 1) := by decide +kernel
theorem dl_1331 : decode code 1331 = .ok (.iaload, 1) := by decide +kernel
theorem dl_1332 : decode code 1332 = .ok (.aload_n 0, 1) := by decide +kernel
theorem dl_1333 : decode code 1333 = .ok (.iload_n 3, 1) := by decide +kernel
theorem dl_1334 : decode code 1334 = .ok (.iconst 3, 1) := by decide +kernel
theorem dl_1335 : decode code 1335 = .ok (.iadd, 1) := by decide +kernel
theorem dl_1336 : decode code 1336 = .ok (.iaload, 1) := by decide +kernel
theorem dl_1337 : decode code 1337 = .ok (.invokevirtual 165, 3) := by decide +kernel
theorem dl_1340 : decode code 1340 = .ok (.if_icmp .eq 137, 3) := by decide +kernel
theorem dl_1343 : decode code 1343 = .ok (.iconst 0, 1) := by decide +kernel
theorem dl_1344 : decode code 1344 = .ok (.ireturn, 1) := by decide +kernel
theorem dl_1345 : decode code 1345 = .ok (.aload_n 1, 1) := by decide +kernel
theorem dl_1346 : decode code 1346 = .ok (.aload_n 0, 1) := by decide +kernel
theorem dl_1347 : decode code 1347 = .ok (.iload_n 3, 1) := by decide +kernel
theorem dl_1348 : decode code 1348 = .ok (.iconst 1, 1) := by decide +kernel
theorem dl_1349 : decode code 1349 = .ok (.iadd, 1) := by decide +kernel
theorem dl_1350 : decode code 1350 = .ok (.iaload, 1) := by decide +kernel
theorem dl_1351 : decode code 1351 = .ok (.aload_n 0, 1) := by decide +kernel
theorem dl_1352 : decode code 1352 = .ok (.iload_n 3, 1) := by decide +kernel
theorem dl_1353 : decode code 1353 = .ok (.iconst 2, 1) := by decide +kernel
theorem dl_1354 : decode code 1354 = .ok (.iadd, 1) := by decide +kernel
theorem dl_1355 : decode code 1355 = .ok (.iaload, 1) := by decide +kernel
theorem dl_1356 : decode code 1356 = .ok (.aload_n 0, 1) := by decide +kernel
theorem dl_1357 : decode code 1357 = .ok (.iload_n 3, 1) := by decide +kernel
theorem dl_1358 : decode code 1358 = .ok (.iconst 3, 1) := by decide +kernel
theorem dl_1359 : decode code 1359 = .ok (.iadd, 1) := by decide +kernel
theorem dl_1360 : decode code 1360 = .ok (.iaload, 1) := by decide +kernel
theorem dl_1361 : decode code 1361 = .ok (.invokevirtual 166, 3) := by decide +kernel
theorem dl_1364 : decode code 1364 = .ok (.aload_n 2, 1) := by decide +kernel
theorem dl_1365 : decode code 1365 = .ok (.aload_n 0, 1) := by decide +kernel
theorem dl_1366 : decode code 1366 = .ok (.iload_n 3, 1) := by decide +kernel
theorem dl_1367 : decode code 1367 = .ok (.iconst 1, 1) := by decide +kernel
theorem dl_1368 : decode code 1368 = .ok (.iadd, 1) := by decide +kernel
theorem dl_1369 : decode code 1369 = .ok (.iaload, 1) := by decide +kernel
theorem dl_1370 : decode code 1370 = .ok (.aload_n 0, 1) := by decide +kernel
theorem dl_1371 : decode code 1371 = .ok (.iload_n 3, 1) := by decide +kernel
theorem dl_1372 : decode code 1372 = .ok (.iconst 2, 1) := by decide +kernel
theorem dl_1373 : decode code 1373 = .ok (.iadd, 1) := by decide +kernel
theorem dl_1374 : decode code 1374 = .ok (.iaload, 1) := by decide +kernel
theorem dl_1375 : decode code 1375 = .ok (.aload_n 0, 1) := by decide +kernel
theorem dl_1376 : decode code 1376 = .ok (.iload_n 3, 1) := by decide +kernel
theorem dl_1377 : decode code 1377 = .ok (.iconst 3, 1) := by decide +kernel
theorem dl_1378 : decode code 1378 = .ok (.iadd, 1) := by decide +kernel
theorem dl_1379 : decode code 1379 = .ok (.iaload, 1) := by decide +kernel
theorem dl_1380 : decode code 1380 = .ok (.invokevirtual 169, 3) := by decide +kernel
theorem dl_1383 : decode code 1383 = .ok (.if_icmp .eq 94, 3) := by decide +kernel
theorem dl_1386 : decode code 1386 = .ok (.iconst 0, 1) := by decide +kernel
theorem dl_1387 : decode code 1387 = .ok (.ireturn, 1) := by decide +kernel
theorem dl_1388 : decode code 1388 = .ok (.aload_n 1, 1) := by decide +kernel
theorem dl_1389 : decode code 1389 = .ok (.aload_n 0, 1) := by decide +kernel
theorem dl_1390 : decode code 1390 = .ok (.iload_n 3, 1) := by decide +kernel
theorem dl_1391 : decode code 1391 = .ok (.iconst 1, 1) := by decide +kernel
theorem dl_1392 : decode code 1392 = .ok (.iadd, 1) := by decide +kernel
theorem dl_1393 : decode code 1393 = .ok (.iaload, 1) := by decide +kernel
theorem dl_1394 : decode code 1394 = .ok (.aload_n 0, 1) := by decide +kernel
theorem dl_1395 : decode code 1395 = .ok (.iload_n 3, 1) := by decide +kernel
theorem dl_1396 : decode code 1396 = .ok (.iconst 2, 1) := by decide +kernel
theorem dl_1397 : decode code 1397 = .ok (.iadd, 1) := by decide +kernel
theorem dl_1398 : decode code 1398 = .ok (.iaload, 1) := by decide +kernel
theorem dl_1399 : decode code 1399 = .ok (.aload_n 0, 1) := by decide +kernel
theorem dl_1400 : decode code 1400 = .ok (.iload_n 3, 1) := by decide +kernel
theorem dl_1401 : decode code 1401 = .ok (.iconst 3, 1) := by decide +kernel
theorem dl_1402 : decode code 1402 = .ok (.iadd, 1) := by decide +kernel
theorem dl_1403 : decode code 1403 = .ok (.iaload, 1) := by decide +kernel
theorem dl_1404 : decode code 1404 = .ok (.aload_n 0, 1) := by decide +kernel
theorem dl_1405 : decode code 1405 = .ok (.iload_n 3, 1) := by decide +kernel
theorem dl_1406 : decode code 1406 = .ok (.iconst 4, 1) := by decide +kernel
theorem dl_1407 : decode code 1407 = .ok (.iadd, 1) := by decide +kernel
theorem dl_1408 : decode code 1408 = .ok (.iaload, 1) := by decide +kernel
theorem dl_1409 : decode code 1409 = .ok (.invokevirtual 170, 3) := by decide +kernel
theorem dl_1412 : decode code 1412 = .ok (.aload_n 2, 1) := by decide +kernel
theorem dl_1413 : decode code 1413 = .ok (.aload_n 0, 1) := by decide +kernel
theorem dl_1414 : decode code 1414 = .ok (.iload_n 3, 1) := by decide +kernel
theorem dl_1415 : decode code 1415 = .ok (.iconst 1, 1) := by decide +kernel
theorem dl_1416 : decode code 1416 = .ok (.iadd, 1) := by decide +kernel
theorem dl_1417 : decode code 1417 = .ok (.iaload, 1) := by decide +kernel
theorem dl_1418 : decode code 1418 = .ok (.aload_n 0, 1) := by decide +kernel
theorem dl_1419 : decode code 1419 = .ok (.iload_n 3, 1) := by decide +kernel
theorem dl_1420 : decode code 1420 = .ok (.iconst 2, 1) := by decide +kernel
theorem dl_1421 : decode code 1421 = .ok (.iadd, 1) := by decide +kernel
theorem dl_1422 : decode code 1422 = .ok (.iaload, 1) := by decide +kernel
theorem dl_1423 : decode code 1423 = .ok (.aload_n 0, 1) := by decide +kernel
theorem dl_1424 : decode code 1424 = .ok (.iload_n 3, 1) := by decide +kernel
theorem dl_1425 : decode code 1425 = .ok (.iconst 3, 1) := by decide +kernel
theorem dl_1426 : decode code 1426 = .ok (.iadd, 1) := by decide +kernel
theorem dl_1427 : decode code 1427 = .ok (.iaload, 1) := by decide +kernel
theorem dl_1428 : decode code 1428 = .ok (.aload_n 0, 1) := by decide +kernel
theorem dl_1429 : decode code 1429 = .ok (.iload_n 3, 1) := by decide +kernel
theorem dl_1430 : decode code 1430 = .ok (.iconst 4, 1) := by decide +kernel
theorem dl_1431 : decode code 1431 = .ok (.iadd, 1) := by decide +kernel
theorem dl_1432 : decode code 1432 = .ok (.iaload, 1) := by decide +kernel
theorem dl_1433 : decode code 1433 = .ok (.invokevirtual 174, 3) := by decide +kernel
theorem dl_1436 : decode code 1436 = .ok (.if_icmp .eq 41, 3) := by decide +kernel
theorem dl_1439 : decode code 1439 = .ok (.iconst 0, 1) := by decide +kernel
theorem dl_1440 : decode code 1440 = .ok (.ireturn, 1) := by decide +kernel
theorem dl_1441 : decode code 1441 = .ok (.aload_n 1, 1) := by decide +kernel
theorem dl_1442 : decode code 1442 = .ok (.invokevirtual 175, 3) := by decide +kernel
theorem dl_1445 : decode code 1445 = .ok (.aload_n 2, 1) := by decide +kernel
theorem dl_1446 : decode code 1446 = .ok (.invokevirtual 178, 3) := by decide +kernel
theorem dl_1449 : decode code 1449 = .ok (.if_icmp .eq 28, 3) := by decide +kernel
theorem dl_1452 : decode code 1452 = .ok (.iconst 0, 1) := by decide +kernel
theorem dl_1453 : decode code 1453 = .ok (.ireturn, 1) := by decide +kernel
theorem dl_1454 : decode code 1454 = .ok (.aload_n 1, 1) := by decide +kernel
theorem dl_1455 : decode code 1455 = .ok (.aload_n 0, 1) := by decide +kernel
theorem dl_1456 : decode code 1456 = .ok (.iload_n 3, 1) := by decide +kernel
theorem dl_1457 : decode code 1457 = .ok (.iconst 1, 1) := by decide +kernel
theorem dl_1458 : decode code 1458 = .ok (.iadd, 1) := by decide +kernel
theorem dl_1459 : decode code 1459 = .ok (.iaload, 1) := by decide +kernel
theorem dl_1460 : decode code 1460 = .ok (.invokevirtual 179, 3) := by decide +kernel
theorem dl_1463 : decode code 1463 = .ok (.aload_n 2, 1) := by decide +kernel
theorem dl_1464 : decode code 1464 = .ok (.aload_n 0, 1) := by decide +kernel
theorem dl_1465 : decode code 1465 = .ok (.iload_n 3, 1) := by decide +kernel
theorem dl_1466 : decode code 1466 = .ok (.iconst 1, 1) := by decide +kernel
theorem dl_1467 : decode code 1467 = .ok (.iadd, 1) := by decide +kernel
theorem dl_1468 : decode code 1468 = .ok (.iaload, 1) := by decide +kernel
theorem dl_1469 : decode code 1469 = .ok (.invokevirtual 182, 3) := by decide +kernel
theorem dl_1472 : decode code 1472 = .ok (.if_icmp .eq 5, 3) := by decide +kernel
theorem dl_1475 : decode code 1475 = .ok (.iconst 0, 1) := by decide +kernel
theorem dl_1476 : decode code 1476 = .ok (.ireturn, 1) := by decide +kernel
theorem dl_1477 : decode code 1477 = .ok (.iinc 3 5, 3) := by decide +kernel
theorem dl_1480 : decode code 1480 = .ok (.goto (-1462), 3) := by decide +kernel
theorem dl_1483 : decode code 1483 = .ok (.iconst 1, 1) := by decide +kernel
theorem dl_1484 : decode code 1484 = .ok (.ireturn, 1) := by decide +kernel
