theorem d_LAW_1318 : decode m_LAW.2.1 1318 = .ok (.aload_n 0, 1) := by decide +kernel
theorem d_LAW_1319 : decode m_LAW.2.1 1319 = .ok (.iload 4, 2) := by decide +kernel
theorem d_LAW_1321 : decode m_LAW.2.1 1321 = .ok (.iconst 3, 1) := by decide +kernel
theorem d_LAW_1322 : decode m_LAW.2.1 1322 = .ok (.iadd, 1) := by decide +kernel
theorem d_LAW_1323 : decode m_LAW.2.1 1323 = .ok (.iaload, 1) := by decide +kernel
theorem d_LAW_1324 : decode m_LAW.2.1 1324 = .ok (.aload_n 0, 1) := by decide +kernel
theorem d_LAW_1325 : decode m_LAW.2.1 1325 = .ok (.iload 4, 2) := by decide +kernel
theorem d_LAW_1327 : decode m_LAW.2.1 1327 = .ok (.iconst 4, 1) := by decide +kernel
theorem d_LAW_1328 : decode m_LAW.2.1 1328 = .ok (.iadd, 1) := by decide +kernel
theorem d_LAW_1329 : decode m_LAW.2.1 1329 = .ok (.iaload, 1) := by decide +kernel
theorem d_LAW_1330 : decode m_LAW.2.1 1330 = .ok (.aload_n 0, 1) := by decide +kernel
theorem d_LAW_1331 : decode m_LAW.2.1 1331 = .ok (.iload 4, 2) := by decide +kernel
theorem d_LAW_1333 : decode m_LAW.2.1 1333 = .ok (.iconst 5, 1) := by decide +kernel
theorem d_LAW_1334 : decode m_LAW.2.1 1334 = .ok (.iadd, 1) := by decide +kernel
theorem d_LAW_1335 : decode m_LAW.2.1 1335 = .ok (.iaload, 1) := by decide +kernel
theorem d_LAW_1336 : decode m_LAW.2.1 1336 = .ok (.aload_n 3, 1) := by decide +kernel
theorem d_LAW_1337 : decode m_LAW.2.1 1337 = .ok (.invokestatic 206, 3) := by decide +kernel
theorem d_LAW_1340 : decode m_LAW.2.1 1340 = .ok (.istore 5, 2) := by decide +kernel
theorem d_LAW_1342 : decode m_LAW.2.1 1342 = .ok (.aload_n 2, 1) := by decide +kernel
theorem d_LAW_1343 : decode m_LAW.2.1 1343 = .ok (.aload_n 0, 1) := by decide +kernel
theorem d_LAW_1344 : decode m_LAW.2.1 1344 = .ok (.iload 4, 2) := by decide +kernel
theorem d_LAW_1346 : decode m_LAW.2.1 1346 = .ok (.iconst 1, 1) := by decide +kernel
theorem d_LAW_1347 : decode m_LAW.2.1 1347 = .ok (.iadd, 1) := by decide +kernel
theorem d_LAW_1348 : decode m_LAW.2.1 1348 = .ok (.iaload, 1) := by decide +kernel
theorem d_LAW_1349 : decode m_LAW.2.1 1349 = .ok (.aload_n 0, 1) := by decide +kernel
theorem d_LAW_1350 : decode m_LAW.2.1 1350 = .ok (.iload 4, 2) := by decide +kernel
theorem d_LAW_1352 : decode m_LAW.2.1 1352 = .ok (.iconst 2, 1) := by decide +kernel
theorem d_LAW_1353 : decode m_LAW.2.1 1353 = .ok (.iadd, 1) := by decide +kernel
theorem d_LAW_1354 : decode m_LAW.2.1 1354 = .ok (.iaload, 1) := by decide +kernel
theorem d_LAW_1355 : decode m_LAW.2.1 1355 = .ok (.aload_n 0, 1) := by decide +kernel
theorem d_LAW_1356 : decode m_LAW.2.1 1356 = .ok (.iload 4, 2) := by decide +kernel
theorem d_LAW_1358 : decode m_LAW.2.1 1358 = .ok (.iconst 3, 1) := by decide +kernel
theorem d_LAW_1359 : decode m_LAW.2.1 1359 = .ok (.iadd, 1) := by decide +kernel
theorem d_LAW_1360 : decode m_LAW.2.1 1360 = .ok (.iaload, 1) := by decide +kernel
theorem d_LAW_1361 : decode m_LAW.2.1 1361 = .ok (.aload_n 0, 1) := by decide +kernel
theorem d_LAW_1362 : decode m_LAW.2.1 1362 = .ok (.iload 4, 2) := by decide +kernel
theorem d_LAW_1364 : decode m_LAW.2.1 1364 = .ok (.iconst 4, 1) := by decide +kernel
theorem d_LAW_1365 : decode m_LAW.2.1 1365 = .ok (.iadd, 1) := by decide +kernel
theorem d_LAW_1366 : decode m_LAW.2.1 1366 = .ok (.iaload, 1) := by decide +kernel
theorem d_LAW_1367 : decode m_LAW.2.1 1367 = .ok (.aload_n 0, 1) := by decide +kernel
theorem d_LAW_1368 : decode m_LAW.2.1 1368 = .ok (.iload 4, 2) := by decide +kernel
theorem d_LAW_1370 : decode m_LAW.2.1 1370 = .ok (.iconst 5, 1) := by decide +kernel
theorem d_LAW_1371 : decode m_LAW.2.1 1371 = .ok (.iadd, 1) := by decide +kernel
theorem d_LAW_1372 : decode m_LAW.2.1 1372 = .ok (.iaload, 1) := by decide +kernel
theorem d_LAW_1373 : decode m_LAW.2.1 1373 = .ok (.invokevirtual 208, 3) := by decide +kernel
theorem d_LAW_1376 : decode m_LAW.2.1 1376 = .ok (.istore 6, 2) := by decide +kernel
theorem d_LAW_1378 : decode m_LAW.2.1 1378 = .ok (.aload_n 2, 1) := by decide +kernel
theorem d_LAW_1379 : decode m_LAW.2.1 1379 = .ok (.invokevirtual 164, 3) := by decide +kernel
theorem d_LAW_1382 : decode m_LAW.2.1 1382 = .ok (.iload 5, 2) := by decide +kernel
theorem d_LAW_1384 : decode m_LAW.2.1 1384 = .ok (.if_icmp .eq 5, 3) := by decide +kernel
theorem d_LAW_1387 : decode m_LAW.2.1 1387 = .ok (.iconst 0, 1) := by decide +kernel
theorem d_LAW_1388 : decode m_LAW.2.1 1388 = .ok (.ireturn, 1) := by decide +kernel
theorem d_LAW_1389 : decode m_LAW.2.1 1389 = .ok (.iload 5, 2) := by decide +kernel
theorem d_LAW_1391 : decode m_LAW.2.1 1391 = .ok (.ifCond .ne 15, 3) := by decide +kernel
theorem d_LAW_1394 : decode m_LAW.2.1 1394 = .ok (.aload_n 3, 1) := by decide +kernel
theorem d_LAW_1395 : decode m_LAW.2.1 1395 = .ok (.iconst 0, 1) := by decide +kernel
theorem d_LAW_1396 : decode m_LAW.2.1 1396 = .ok (.laload, 1) := by decide +kernel
theorem d_LAW_1397 : decode m_LAW.2.1 1397 = .ok (.iload 6, 2) := by decide +kernel
theorem d_LAW_1399 : decode m_LAW.2.1 1399 = .ok (.i2l, 1) := by decide +kernel
theorem d_LAW_1400 : decode m_LAW.2.1 1400 = .ok (.lcmp, 1) := by decide +kernel
theorem d_LAW_1401 : decode m_LAW.2.1 1401 = .ok (.ifCond .eq 5, 3) := by decide +kernel
theorem d_LAW_1404 : decode m_LAW.2.1 1404 = .ok (.iconst 0, 1) := by decide +kernel
theorem d_LAW_1405 : decode m_LAW.2.1 1405 = .ok (.ireturn, 1) := by decide +kernel
theorem d_LAW_1406 : decode m_LAW.2.1 1406 = .ok (.goto 2157, 3) := by decide +kernel
theorem d_LAW_1409 : decode m_LAW.2.1 1409 = .ok (.aload_n 1, 1) := by decide +kernel
theorem d_LAW_1410 : decode m_LAW.2.1 1410 = .ok (.aload_n 0, 1) := by decide +kernel
theorem d_LAW_1411 : decode m_LAW.2.1 1411 = .ok (.iload 4, 2) := by decide +kernel
theorem d_LAW_1413 : decode m_LAW.2.1 1413 = .ok (.iconst 1, 1) := by decide +kernel
theorem d_LAW_1414 : decode m_LAW.2.1 1414 = .ok (.iadd, 1) := by decide +kernel
theorem d_LAW_1415 : decode m_LAW.2.1 1415 = .ok (.iaload, 1) := by decide +kernel
theorem d_LAW_1416 : decode m_LAW.2.1 1416 = .ok (.invokestatic 209, 3) := by decide +kernel
theorem d_LAW_1419 : decode m_LAW.2.1 1419 = .ok (.istore 5, 2) := by decide +kernel
theorem d_LAW_1421 : decode m_LAW.2.1 1421 = .ok (.aload_n 2, 1) := by decide +kernel
theorem d_LAW_1422 : decode m_LAW.2.1 1422 = .ok (.aload_n 0, 1) := by decide +kernel
theorem d_LAW_1423 : decode m_LAW.2.1 1423 = .ok (.iload 4, 2) := by decide +kernel
theorem d_LAW_1425 : decode m_LAW.2.1 1425 = .ok (.iconst 1, 1) := by decide +kernel
theorem d_LAW_1426 : decode m_LAW.2.1 1426 = .ok (.iadd, 1) := by decide +kernel
theorem d_LAW_1427 : decode m_LAW.2.1 1427 = .ok (.iaload, 1) := by decide +kernel
theorem d_LAW_1428 : decode m_LAW.2.1 1428 = .ok (.invokevirtual 212, 3) := by decide +kernel
theorem d_LAW_1431 : decode m_LAW.2.1 1431 = .ok (.aload_n 2, 1) := by decide +kernel
theorem d_LAW_1432 : decode m_LAW.2.1 1432 = .ok (.invokevirtual 164, 3) := by decide +kernel
theorem d_LAW_1435 : decode m_LAW.2.1 1435 = .ok (.iload 5, 2) := by decide +kernel
theorem d_LAW_1437 : decode m_LAW.2.1 1437 = .ok (.if_icmp .eq 5, 3) := by decide +kernel
theorem d_LAW_1440 : decode m_LAW.2.1 1440 = .ok (.iconst 0, 1) := by decide +kernel
theorem d_LAW_1441 : decode m_LAW.2.1 1441 = .ok (.ireturn, 1) := by decide +kernel
theorem d_LAW_1442 : decode m_LAW.2.1 1442 = .ok (.goto 2121, 3) := by decide +kernel
theorem d_LAW_1445 : decode m_LAW.2.1 1445 = .ok (.aload_n 1, 1) := by decide +kernel
theorem d_LAW_1446 : decode m_LAW.2.1 1446 = .ok (.aload_n 0, 1) := by decide +kernel
theorem d_LAW_1447 : decode m_LAW.2.1 1447 = .ok (.iload 4, 2) := by decide +kernel
theorem d_LAW_1449 : decode m_LAW.2.1 1449 = .ok (.iconst 1, 1) := by decide +kernel
theorem d_LAW_1450 : decode m_LAW.2.1 1450 = .ok (.iadd, 1) := by decide +kernel
theorem d_LAW_1451 : decode m_LAW.2.1 1451 = .ok (.iaload, 1) := by decide +kernel
theorem d_LAW_1452 : decode m_LAW.2.1 1452 = .ok (.aload_n 3, 1) := by decide +kernel
theorem d_LAW_1453 : decode m_LAW.2.1 1453 = .ok (.invokestatic 213, 3) := by decide +kernel
theorem d_LAW_1456 : decode m_LAW.2.1 1456 = .ok (.istore 5, 2) := by decide +kernel
theorem d_LAW_1458 : decode m_LAW.2.1 1458 = .ok (.aload_n 2, 1) := by decide +kernel
theorem d_LAW_1459 : decode m_LAW.2.1 1459 = .ok (.aload_n 0, 1) := by decide +kernel
theorem d_LAW_1460 : decode m_LAW.2.1 1460 = .ok (.iload 4, 2) := by decide +kernel
theorem d_LAW_1462 : decode m_LAW.2.1 1462 = .ok (.iconst 1, 1) := by decide +kernel
theorem d_LAW_1463 : decode m_LAW.2.1 1463 = .ok (.iadd, 1) := by decide +kernel
theorem d_LAW_1464 : decode m_LAW.2.1 1464 = .ok (.iaload, 1) := by decide +kernel
theorem d_LAW_1465 : decode m_LAW.2.1 1465 = .ok (.invokevirtual 216, 3) := by decide +kernel
theorem d_LAW_1468 : decode m_LAW.2.1 1468 = .ok (.istore 6, 2) := by decide +kernel
theorem d_LAW_1470 : decode m_LAW.2.1 1470 = .ok (.aload_n 2, 1) := by decide +kernel
theorem d_LAW_1471 : decode m_LAW.2.1 1471 = .ok (.invokevirtual 164, 3) := by decide +kernel
theorem d_LAW_1474 : decode m_LAW.2.1 1474 = .ok (.iload 5, 2) := by decide +kernel
theorem d_LAW_1476 : decode m_LAW.2.1 1476 = .ok (.if_icmp .eq 5, 3) := by decide +kernel
theorem d_LAW_1479 : decode m_LAW.2.1 1479 = .ok (.iconst 0, 1) := by decide +kernel
theorem d_LAW_1480 : decode m_LAW.2.1 1480 = .ok (.ireturn, 1) := by decide +kernel
theorem d_LAW_1481 : decode m_LAW.2.1 1481 = .ok (.iload 5, 2) := by decide +kernel
theorem d_LAW_1483 : decode m_LAW.2.1 1483 = .ok (.ifCond .ne 15, 3) := by decide +kernel
theorem d_LAW_1486 : decode m_LAW.2.1 1486 = .ok (.aload_n 3, 1) := by decide +kernel
theorem d_LAW_1487 : decode m_LAW.2.1 1487 = .ok (.iconst 0, 1) := by decide +kernel
theorem d_LAW_1488 : decode m_LAW.2.1 1488 = .ok (.laload, 1) := by decide +kernel
theorem d_LAW_1489 : decode m_LAW.2.1 1489 = .ok (.iload 6, 2) := by decide +kernel
theorem d_LAW_1491 : decode m_LAW.2.1 1491 = .ok (.i2l, 1) := by decide +kernel
theorem d_LAW_1492 : decode m_LAW.2.1 1492 = .ok (.lcmp, 1) := by decide +kernel
theorem d_LAW_1493 : decode m_LAW.2.1 1493 = .ok (.ifCond .eq 5, 3) := by decide +kernel
theorem d_LAW_1496 : decode m_LAW.2.1 1496 = .ok (.iconst 0, 1) := by decide +kernel
theorem d_LAW_1497 : decode m_LAW.2.1 1497 = .ok (.ireturn, 1) := by decide +kernel
theorem d_LAW_1498 : decode m_LAW.2.1 1498 = .ok (.goto 2065, 3) := by decide +kernel
theorem d_LAW_1501 : decode m_LAW.2.1 1501 = .ok (.aload_n 1, 1) := by decide +kernel
theorem d_LAW_1502 : decode m_LAW.2.1 1502 = .ok (.invokevirtual 217, 3) := by decide +kernel
theorem d_LAW_1505 : decode m_LAW.2.1 1505 = .ok (.aload_n 2, 1) := by decide +kernel
theorem d_LAW_1506 : decode m_LAW.2.1 1506 = .ok (.invokevirtual 220, 3) := by decide +kernel
theorem d_LAW_1509 : decode m_LAW.2.1 1509 = .ok (.if_icmp .eq 2054, 3) := by decide +kernel
theorem d_LAW_1512 : decode m_LAW.2.1 1512 = .ok (.iconst 0, 1) := by decide +kernel
theorem d_LAW_1513 : decode m_LAW.2.1 1513 = .ok (.ireturn, 1) := by decide +kernel
theorem d_LAW_1514 : decode m_LAW.2.1 1514 = .ok (.aload_n 1, 1) := by decide +kernel
theorem d_LAW_1515 : decode m_LAW.2.1 1515 = .ok (.invokevirtual 221, 3) := by decide +kernel
theorem d_LAW_1518 : decode m_LAW.2.1 1518 = .ok (.aload_n 2, 1) := by decide +kernel
theorem d_LAW_1519 : decode m_LAW.2.1 1519 = .ok (.invokevirtual 224, 3) := by decide +kernel
theorem d_LAW_1522 : decode m_LAW.2.1 1522 = .ok (.if_icmp .eq 2041, 3) := by decide +kernel
theorem d_LAW_1525 : decode m_LAW.2.1 1525 = .ok (.iconst 0, 1) := by decide +kernel
theorem d_LAW_1526 : decode m_LAW.2.1 1526 = .ok (.ireturn, 1) := by decide +kernel
theorem d_LAW_1527 : decode m_LAW.2.1 1527 = .ok (.aload_n 1, 1) := by decide +kernel
theorem d_LAW_1528 : decode m_LAW.2.1 1528 = .ok (.invokevirtual 225, 3) := by decide +kernel
theorem d_LAW_1531 : decode m_LAW.2.1 1531 = .ok (.aload_n 2, 1) := by decide +kernel
theorem d_LAW_1532 : decode m_LAW.2.1 1532 = .ok (.invokevirtual 228, 3) := by decide +kernel
theorem d_LAW_1535 : decode m_LAW.2.1 1535 = .ok (.if_icmp .eq 2028, 3) := by decide +kernel
theorem d_LAW_1538 : decode m_LAW.2.1 1538 = .ok (.iconst 0, 1) := by decide +kernel
theorem d_LAW_1539 : decode m_LAW.2.1 1539 = .ok (.ireturn, 1) := by decide +kernel
theorem d_LAW_1540 : decode m_LAW.2.1 1540 = .ok (.aload_n 1, 1) := by decide +kernel
theorem d_LAW_1541 : decode m_LAW.2.1 1541 = .ok (.invokevirtual 229, 3) := by decide +kernel
theorem d_LAW_1544 : decode m_LAW.2.1 1544 = .ok (.aload_n 2, 1) := by decide +kernel
theorem d_LAW_1545 : decode m_LAW.2.1 1545 = .ok (.invokevirtual 232, 3) := by decide +kernel
theorem d_LAW_1548 : decode m_LAW.2.1 1548 = .ok (.if_icmp .eq 2015, 3) := by decide +kernel
theorem d_LAW_1551 : decode m_LAW.2.1 1551 = .ok (.iconst 0, 1) := by decide +kernel
theorem d_LAW_1552 : decode m_LAW.2.1 1552 = .ok (.ireturn, 1) := by decide +kernel
theorem d_LAW_1553 : decode m_LAW.2.1 1553 = .ok (.aload_n 1, 1) := by decide +kernel
theorem d_LAW_1554 : decode m_LAW.2.1 1554 = .ok (.invokevirtual 233, 3) := by decide +kernel
theorem d_LAW_1557 : decode m_LAW.2.1 1557 = .ok (.aload_n 2, 1) := by decide +kernel
theorem d_LAW_1558 : decode m_LAW.2.1 1558 = .ok (.invokevirtual 236, 3) := by decide +kernel
theorem d_LAW_1561 : decode m_LAW.2.1 1561 = .ok (.if_icmp .eq 2002, 3) := by decide +kernel
theorem d_LAW_1564 : decode m_LAW.2.1 1564 = .ok (.iconst 0, 1) := by decide +kernel
theorem d_LAW_1565 : decode m_LAW.2.1 1565 = .ok (.ireturn, 1) := by decide +kernel
theorem d_LAW_1566 : decode m_LAW.2.1 1566 = .ok (.aload_n 1, 1) := by decide +kernel
theorem d_LAW_1567 : decode m_LAW.2.1 1567 = .ok (.aload_n 0, 1) := by decide +kernel
theorem d_LAW_1568 : decode m_LAW.2.1 1568 = .ok (.iload 4, 2) := by decide +kernel
theorem d_LAW_1570 : decode m_LAW.2.1 1570 = .ok (.iconst 1, 1) := by decide +kernel
theorem d_LAW_1571 : decode m_LAW.2.1 1571 = .ok (.iadd, 1) := by decide +kernel
theorem d_LAW_1572 : decode m_LAW.2.1 1572 = .ok (.iaload, 1) := by decide +kernel
theorem d_LAW_1573 : decode m_LAW.2.1 1573 = .ok (.aload_n 0, 1) := by decide +kernel
theorem d_LAW_1574 : decode m_LAW.2.1 1574 = .ok (.iload 4, 2) := by decide +kernel
theorem d_LAW_1576 : decode m_LAW.2.1 1576 = .ok (.iconst 2, 1) := by decide +kernel
theorem d_LAW_1577 : decode m_LAW.2.1 1577 = .ok (.iadd, 1) := by decide +kernel
theorem d_LAW_1578 : decode m_LAW.2.1 1578 = .ok (.iaload, 1) := by decide +kernel
theorem d_LAW_1579 : decode m_LAW.2.1 1579 = .ok (.aload_n 3, 1) := by decide +kernel
theorem d_LAW_1580 : decode m_LAW.2.1 1580 = .ok (.invokestatic 237, 3) := by decide +kernel
theorem d_LAW_1583 : decode m_LAW.2.1 1583 = .ok (.istore 5, 2) := by decide +kernel
theorem d_LAW_1585 : decode m_LAW.2.1 1585 = .ok (.aload_n 2, 1) := by decide +kernel
theorem d_LAW_1586 : decode m_LAW.2.1 1586 = .ok (.aload_n 0, 1) := by decide +kernel
theorem d_LAW_1587 : decode m_LAW.2.1 1587 = .ok (.iload 4, 2) := by decide +kernel
theorem d_LAW_1589 : decode m_LAW.2.1 1589 = .ok (.iconst 1, 1) := by decide +kernel
theorem d_LAW_1590 : decode m_LAW.2.1 1590 = .ok (.iadd, 1) := by decide +kernel
theorem d_LAW_1591 : decode m_LAW.2.1 1591 = .ok (.iaload, 1) := by decide +kernel
theorem d_LAW_1592 : decode m_LAW.2.1 1592 = .ok (.aload_n 0, 1) := by decide +kernel
theorem d_LAW_1593 : decode m_LAW.2.1 1593 = .ok (.iload 4, 2) := by decide +kernel
theorem d_LAW_1595 : decode m_LAW.2.1 1595 = .ok (.iconst 2, 1) := by decide +kernel
theorem d_LAW_1596 : decode m_LAW.2.1 1596 = .ok (.iadd, 1) := by decide +kernel
theorem d_LAW_1597 : decode m_LAW.2.1 1597 = .ok (.iaload, 1) := by decide +kernel
theorem d_LAW_1598 : decode m_LAW.2.1 1598 = .ok (.invokevirtual 239, 3) := by decide +kernel
theorem d_LAW_1601 : decode m_LAW.2.1 1601 = .ok (.istore 6, 2) := by decide +kernel
theorem d_LAW_1603 : decode m_LAW.2.1 1603 = .ok (.aload_n 2, 1) := by decide +kernel
theorem d_LAW_1604 : decode m_LAW.2.1 1604 = .ok (.invokevirtual 164, 3) := by decide +kernel
theorem d_LAW_1607 : decode m_LAW.2.1 1607 = .ok (.iload 5, 2) := by decide +kernel
theorem d_LAW_1609 : decode m_LAW.2.1 1609 = .ok (.if_icmp .eq 5, 3) := by decide +kernel
theorem d_LAW_1612 : decode m_LAW.2.1 1612 = .ok (.iconst 0, 1) := by decide +kernel
theorem d_LAW_1613 : decode m_LAW.2.1 1613 = .ok (.ireturn, 1) := by decide +kernel
theorem d_LAW_1614 : decode m_LAW.2.1 1614 = .ok (.iload 5, 2) := by decide +kernel
theorem d_LAW_1616 : decode m_LAW.2.1 1616 = .ok (.ifCond .ne 15, 3) := by decide +kernel
theorem d_LAW_1619 : decode m_LAW.2.1 1619 = .ok (.aload_n 3, 1) := by decide +kernel
theorem d_LAW_1620 : decode m_LAW.2.1 1620 = .ok (.iconst 0, 1) := by decide +kernel
theorem d_LAW_1621 : decode m_LAW.2.1 1621 = .ok (.laload, 1) := by decide +kernel
theorem d_LAW_1622 : decode m_LAW.2.1 1622 = .ok (.iload 6, 2) := by decide +kernel
theorem d_LAW_1624 : decode m_LAW.2.1 1624 = .ok (.i2l, 1) := by decide +kernel
theorem d_LAW_1625 : decode m_LAW.2.1 1625 = .ok (.lcmp, 1) := by decide +kernel
theorem d_LAW_1626 : decode m_LAW.2.1 1626 = .ok (.ifCond .eq 5, 3) := by decide +kernel
theorem d_LAW_1629 : decode m_LAW.2.1 1629 = .ok (.iconst 0, 1) := by decide +kernel
theorem d_LAW_1630 : decode m_LAW.2.1 1630 = .ok (.ireturn, 1) := by decide +kernel
theorem d_LAW_1631 : decode m_LAW.2.1 1631 = .ok (.goto 1932, 3) := by decide +kernel
theorem d_LAW_1634 : decode m_LAW.2.1 1634 = .ok (.aload_n 1, 1) := by decide +kernel
theorem d_LAW_1635 : decode m_LAW.2.1 1635 = .ok (.invokevirtual 240, 3) := by decide +kernel
theorem d_LAW_1638 : decode m_LAW.2.1 1638 = .ok (.aload_n 2, 1) := by decide +kernel
theorem d_LAW_1639 : decode m_LAW.2.1 1639 = .ok (.invokevirtual 243, 3) := by decide +kernel
theorem d_LAW_1642 : decode m_LAW.2.1 1642 = .ok (.if_icmp .eq 1921, 3) := by decide +kernel
theorem d_LAW_1645 : decode m_LAW.2.1 1645 = .ok (.iconst 0, 1) := by decide +kernel
theorem d_LAW_1646 : decode m_LAW.2.1 1646 = .ok (.ireturn, 1) := by decide +kernel
theorem d_LAW_1647 : decode m_LAW.2.1 1647 = .ok (.aload_n 1, 1) := by decide +kernel
theorem d_LAW_1648 : decode m_LAW.2.1 1648 = .ok (.aload_n 0, 1) := by decide +kernel
theorem d_LAW_1649 : decode m_LAW.2.1 1649 = .ok (.iload 4, 2) := by decide +kernel
theorem d_LAW_1651 : decode m_LAW.2.1 1651 = .ok (.iconst 1, 1) := by decide +kernel
theorem d_LAW_1652 : decode m_LAW.2.1 1652 = .ok (.iadd, 1) := by decide +kernel
theorem d_LAW_1653 : decode m_LAW.2.1 1653 = .ok (.iaload, 1) := by decide +kernel
theorem d_LAW_1654 : decode m_LAW.2.1 1654 = .ok (.aload_n 3, 1) := by decide +kernel
theorem d_LAW_1655 : decode m_LAW.2.1 1655 = .ok (.invokestatic 244, 3) := by decide +kernel
theorem d_LAW_1658 : decode m_LAW.2.1 1658 = .ok (.istore 5, 2) := by decide +kernel
theorem d_LAW_1660 : decode m_LAW.2.1 1660 = .ok (.aload_n 2, 1) := by decide +kernel
theorem d_LAW_1661 : decode m_LAW.2.1 1661 = .ok (.aload_n 0, 1) := by decide +kernel
theorem d_LAW_1662 : decode m_LAW.2.1 1662 = .ok (.iload 4, 2) := by decide +kernel
theorem d_LAW_1664 : decode m_LAW.2.1 1664 = .ok (.iconst 1, 1) := by decide +kernel
theorem d_LAW_1665 : decode m_LAW.2.1 1665 = .ok (.iadd, 1) := by decide +kernel
theorem d_LAW_1666 : decode m_LAW.2.1 1666 = .ok (.iaload, 1) := by decide +kernel
theorem d_LAW_1667 : decode m_LAW.2.1 1667 = .ok (.invokevirtual 246, 3) := by decide +kernel
theorem d_LAW_1670 : decode m_LAW.2.1 1670 = .ok (.istore 6, 2) := by decide +kernel
theorem d_LAW_1672 : decode m_LAW.2.1 1672 = .ok (.aload_n 2, 1) := by decide +kernel
theorem d_LAW_1673 : decode m_LAW.2.1 1673 = .ok (.invokevirtual 164, 3) := by decide +kernel
theorem d_LAW_1676 : decode m_LAW.2.1 1676 = .ok (.iload 5, 2) := by decide +kernel
theorem d_LAW_1678 : decode m_LAW.2.1 1678 = .ok (.if_icmp .eq 5, 3) := by decide +kernel
theorem d_LAW_1681 : decode m_LAW.2.1 1681 = .ok (.iconst 0, 1) := by decide +kernel
theorem d_LAW_1682 : decode m_LAW.2.1 1682 = .ok (.ireturn, 1) := by decide +kernel
theorem d_LAW_1683 : decode m_LAW.2.1 1683 = .ok (.iload 5, 2) := by decide +kernel
theorem d_LAW_1685 : decode m_LAW.2.1 1685 = .ok (.ifCond .ne 15, 3) := by decide +kernel
theorem d_LAW_1688 : decode m_LAW.2.1 1688 = .ok (.aload_n 3, 1) := by decide +kernel
theorem d_LAW_1689 : decode m_LAW.2.1 1689 = .ok (.iconst 0, 1) := by decide +kernel
theorem d_LAW_1690 : decode m_LAW.2.1 1690 = .ok (.laload, 1) := by decide +kernel
theorem d_LAW_1691 : decode m_LAW.2.1 1691 = .ok (.iload 6, 2) := by decide +kernel
theorem d_LAW_1693 : decode m_LAW.2.1 1693 = .ok (.i2l, 1) := by decide +kernel
theorem d_LAW_1694 : decode m_LAW.2.1 1694 = .ok (.lcmp, 1) := by decide +kernel
theorem d_LAW_1695 : decode m_LAW.2.1 1695 = .ok (.ifCond .eq 5, 3) := by decide +kernel
theorem d_LAW_1698 : decode m_LAW.2.1 1698 = .ok (.iconst 0, 1) := by decide +kernel
theorem d_LAW_1699 : decode m_LAW.2.1 1699 = .ok (.ireturn, 1) := by decide +kernel
theorem d_LAW_1700 : decode m_LAW.2.1 1700 = .ok (.goto 1863, 3) := by decide +kernel
theorem d_LAW_1703 : decode m_LAW.2.1 1703 = .ok (.aload_n 1, 1) := by decide +kernel
theorem d_LAW_1704 : decode m_LAW.2.1 1704 = .ok (.aload_n 0, 1) := by decide +kernel
theorem d_LAW_1705 : decode m_LAW.2.1 1705 = .ok (.iload 4, 2) := by decide +kernel
theorem d_LAW_1707 : decode m_LAW.2.1 1707 = .ok (.iconst 1, 1) := by decide +kernel
theorem d_LAW_1708 : decode m_LAW.2.1 1708 = .ok (.iadd, 1) := by decide +kernel
theorem d_LAW_1709 : decode m_LAW.2.1 1709 = .ok (.iaload, 1) := by decide +kernel
theorem d_LAW_1710 : decode m_LAW.2.1 1710 = .ok (.aload_n 0, 1) := by decide +kernel
theorem d_LAW_1711 : decode m_LAW.2.1 1711 = .ok (.iload 4, 2) := by decide +kernel
theorem d_LAW_1713 : decode m_LAW.2.1 1713 = .ok (.iconst 2, 1) := by decide +kernel
theorem d_LAW_1714 : decode m_LAW.2.1 1714 = .ok (.iadd, 1) := by decide +kernel
theorem d_LAW_1715 : decode m_LAW.2.1 1715 = .ok (.iaload, 1) := by decide +kernel
theorem d_LAW_1716 : decode m_LAW.2.1 1716 = .ok (.aload_n 0, 1) := by decide +kernel
theorem d_LAW_1717 : decode m_LAW.2.1 1717 = .ok (.iload 4, 2) := by decide +kernel
theorem d_LAW_1719 : decode m_LAW.2.1 1719 = .ok (.iconst 3, 1) := by decide +kernel
theorem d_LAW_1720 : decode m_LAW.2.1 1720 = .ok (.iadd, 1) := by decide +kernel
theorem d_LAW_1721 : decode m_LAW.2.1 1721 = .ok (.iaload, 1) := by decide +kernel
theorem d_LAW_1722 : decode m_LAW.2.1 1722 = .ok (.aload_n 0, 1) := by decide +kernel
theorem d_LAW_1723 : decode m_LAW.2.1 1723 = .ok (.iload 4, 2) := by decide +kernel
theorem d_LAW_1725 : decode m_LAW.2.1 1725 = .ok (.iconst 4, 1) := by decide +kernel
theorem d_LAW_1726 : decode m_LAW.2.1 1726 = .ok (.iadd, 1) := by decide +kernel
theorem d_LAW_1727 : decode m_LAW.2.1 1727 = .ok (.iaload, 1) := by decide +kernel
theorem d_LAW_1728 : decode m_LAW.2.1 1728 = .ok (.aload_n 3, 1) := by decide +kernel
theorem d_LAW_1729 : decode m_LAW.2.1 1729 = .ok (.invokestatic 247, 3) := by decide +kernel
theorem d_LAW_1732 : decode m_LAW.2.1 1732 = .ok (.istore 5, 2) := by decide +kernel
theorem d_LAW_1734 : decode m_LAW.2.1 1734 = .ok (.aload_n 2, 1) := by decide +kernel
theorem d_LAW_1735 : decode m_LAW.2.1 1735 = .ok (.aload_n 0, 1) := by decide +kernel
theorem d_LAW_1736 : decode m_LAW.2.1 1736 = .ok (.iload 4, 2) := by decide +kernel
theorem d_LAW_1738 : decode m_LAW.2.1 1738 = .ok (.iconst 1, 1) := by decide +kernel
theorem d_LAW_1739 : decode m_LAW.2.1 1739 = .ok (.iadd, 1) := by decide +kernel
theorem d_LAW_1740 : decode m_LAW.2.1 1740 = .ok (.iaload, 1) := by decide +kernel
theorem d_LAW_1741 : decode m_LAW.2.1 1741 = .ok (.aload_n 0, 1) := by decide +kernel
theorem d_LAW_1742 : decode m_LAW.2.1 1742 = .ok (.iload 4, 2) := by decide +kernel
theorem d_LAW_1744 : decode m_LAW.2.1 1744 = .ok (.iconst 2, 1) := by decide +kernel
theorem d_LAW_1745 : decode m_LAW.2.1 1745 = .ok (.iadd, 1) := by decide +kernel
theorem d_LAW_1746 : decode m_LAW.2.1 1746 = .ok (.iaload, 1) := by decide +kernel
theorem d_LAW_1747 : decode m_LAW.2.1 1747 = .ok (.aload_n 0, 1) := by decide +kernel
theorem d_LAW_1748 : decode m_LAW.2.1 1748 = .ok (.iload 4, 2) := by decide +kernel
theorem d_LAW_1750 : decode m_LAW.2.1 1750 = .ok (.iconst 3, 1) := by decide +kernel
theorem d_LAW_1751 : decode m_LAW.2.1 1751 = .ok (.iadd, 1) := by decide +kernel
theorem d_LAW_1752 : decode m_LAW.2.1 1752 = .ok (.iaload, 1) := by decide +kernel
theorem d_LAW_1753 : decode m_LAW.2.1 1753 = .ok (.aload_n 0, 1) := by decide +kernel
theorem d_LAW_1754 : decode m_LAW.2.1 1754 = .ok (.iload 4, 2) := by decide +kernel
theorem d_LAW_1756 : decode m_LAW.2.1 1756 = .ok (.iconst 4, 1) := by decide +kernel
theorem d_LAW_1757 : decode m_LAW.2.1 1757 = .ok (.iadd, 1) := by decide +kernel
theorem d_LAW_1758 : decode m_LAW.2.1 1758 = .ok (.iaload, 1) := by decide +kernel
theorem d_LAW_1759 : decode m_LAW.2.1 1759 = .ok (.invokevirtual 249, 3) := by decide +kernel
theorem d_LAW_1762 : decode m_LAW.2.1 1762 = .ok (.istore 6, 2) := by decide +kernel
theorem d_LAW_1764 : decode m_LAW.2.1 1764 = .ok (.aload_n 2, 1) := by decide +kernel
theorem d_LAW_1765 : decode m_LAW.2.1 1765 = .ok (.invokevirtual 164, 3) := by decide +kernel
theorem d_LAW_1768 : decode m_LAW.2.1 1768 = .ok (.iload 5, 2) := by decide +kernel
theorem d_LAW_1770 : decode m_LAW.2.1 1770 = .ok (.if_icmp .eq 5, 3) := by decide +kernel
theorem d_LAW_1773 : decode m_LAW.2.1 1773 = .ok (.iconst 0, 1) := by decide +kernel
theorem d_LAW_1774 : decode m_LAW.2.1 1774 = .ok (.ireturn, 1) := by decide +kernel
theorem d_LAW_1775 : decode m_LAW.2.1 1775 = .ok (.iload 5, 2) := by decide +kernel
theorem d_LAW_1777 : decode m_LAW.2.1 1777 = .ok (.ifCond .ne 22, 3) := by decide +kernel
theorem d_LAW_1780 : decode m_LAW.2.1 1780 = .ok (.aload_n 3, 1) := by decide +kernel
theorem d_LAW_1781 : decode m_LAW.2.1 1781 = .ok (.iconst 0, 1) := by decide +kernel
theorem d_LAW_1782 : decode m_LAW.2.1 1782 = .ok (.laload, 1) := by decide +kernel
theorem d_LAW_1783 : decode m_LAW.2.1 1783 = .ok (.iload 6, 2) := by decide +kernel
theorem d_LAW_1785 : decode m_LAW.2.1 1785 = .ok (.ifCond .eq 7, 3) := by decide +kernel
theorem d_LAW_1788 : decode m_LAW.2.1 1788 = .ok (.lconst 1, 1) := by decide +kernel
theorem d_LAW_1789 : decode m_LAW.2.1 1789 = .ok (.goto 4, 3) := by decide +kernel
theorem d_LAW_1792 : decode m_LAW.2.1 1792 = .ok (.lconst 0, 1) := by decide +kernel
theorem d_LAW_1793 : decode m_LAW.2.1 1793 = .ok (.lcmp, 1) := by decide +kernel
theorem d_LAW_1794 : decode m_LAW.2.1 1794 = .ok (.ifCond .eq 5, 3) := by decide +kernel
theorem d_LAW_1797 : decode m_LAW.2.1 1797 = .ok (.iconst 0, 1) := by decide +kernel
theorem d_LAW_1798 : decode m_LAW.2.1 1798 = .ok (.ireturn, 1) := by decide +kernel
theorem d_LAW_1799 : decode m_LAW.2.1 1799 = .ok (.goto 1764, 3) := by decide +kernel
theorem d_LAW_1802 : decode m_LAW.2.1 1802 = .ok (.aload_n 1, 1) := by decide +kernel
theorem d_LAW_1803 : decode m_LAW.2.1 1803 = .ok (.aload_n 0, 1) := by decide +kernel
theorem d_LAW_1804 : decode m_LAW.2.1 1804 = .ok (.iload 4, 2) := by decide +kernel
theorem d_LAW_1806 : decode m_LAW.2.1 1806 = .ok (.iconst 1, 1) := by decide +kernel
theorem d_LAW_1807 : decode m_LAW.2.1 1807 = .ok (.iadd, 1) := by decide +kernel
theorem d_LAW_1808 : decode m_LAW.2.1 1808 = .ok (.iaload, 1) := by decide +kernel
theorem d_LAW_1809 : decode m_LAW.2.1 1809 = .ok (.aload_n 0, 1) := by decide +kernel
theorem d_LAW_1810 : decode m_LAW.2.1 1810 = .ok (.iload 4, 2) := by decide +kernel
theorem d_LAW_1812 : decode m_LAW.2.1 1812 = .ok (.iconst 2, 1) := by decide +kernel
theorem d_LAW_1813 : decode m_LAW.2.1 1813 = .ok (.iadd, 1) := by decide +kernel
theorem d_LAW_1814 : decode m_LAW.2.1 1814 = .ok (.iaload, 1) := by decide +kernel
theorem d_LAW_1815 : decode m_LAW.2.1 1815 = .ok (.aload_n 3, 1) := by decide +kernel
theorem d_LAW_1816 : decode m_LAW.2.1 1816 = .ok (.invokestatic 250, 3) := by decide +kernel
theorem d_LAW_1819 : decode m_LAW.2.1 1819 = .ok (.istore 5, 2) := by decide +kernel
theorem d_LAW_1821 : decode m_LAW.2.1 1821 = .ok (.aload_n 2, 1) := by decide +kernel
theorem d_LAW_1822 : decode m_LAW.2.1 1822 = .ok (.aload_n 0, 1) := by decide +kernel
theorem d_LAW_1823 : decode m_LAW.2.1 1823 = .ok (.iload 4, 2) := by decide +kernel
theorem d_LAW_1825 : decode m_LAW.2.1 1825 = .ok (.iconst 1, 1) := by decide +kernel
theorem d_LAW_1826 : decode m_LAW.2.1 1826 = .ok (.iadd, 1) := by decide +kernel
theorem d_LAW_1827 : decode m_LAW.2.1 1827 = .ok (.iaload, 1) := by decide +kernel
theorem d_LAW_1828 : decode m_LAW.2.1 1828 = .ok (.aload_n 0, 1) := by decide +kernel
theorem d_LAW_1829 : decode m_LAW.2.1 1829 = .ok (.iload 4, 2) := by decide +kernel
theorem d_LAW_1831 : decode m_LAW.2.1 1831 = .ok (.iconst 2, 1) := by decide +kernel
theorem d_LAW_1832 : decode m_LAW.2.1 1832 = .ok (.iadd, 1) := by decide +kernel
theorem d_LAW_1833 : decode m_LAW.2.1 1833 = .ok (.iaload, 1) := by decide +kernel
theorem d_LAW_1834 : decode m_LAW.2.1 1834 = .ok (.invokevirtual 252, 3) := by decide +kernel
theorem d_LAW_1837 : decode m_LAW.2.1 1837 = .ok (.istore 6, 2) := by decide +kernel
theorem d_LAW_1839 : decode m_LAW.2.1 1839 = .ok (.aload_n 2, 1) := by decide +kernel
theorem d_LAW_1840 : decode m_LAW.2.1 1840 = .ok (.invokevirtual 164, 3) := by decide +kernel
theorem d_LAW_1843 : decode m_LAW.2.1 1843 = .ok (.iload 5, 2) := by decide +kernel
theorem d_LAW_1845 : decode m_LAW.2.1 1845 = .ok (.if_icmp .eq 5, 3) := by decide +kernel
theorem d_LAW_1848 : decode m_LAW.2.1 1848 = .ok (.iconst 0, 1) := by decide +kernel
theorem d_LAW_1849 : decode m_LAW.2.1 1849 = .ok (.ireturn, 1) := by decide +kernel
theorem d_LAW_1850 : decode m_LAW.2.1 1850 = .ok (.iload 5, 2) := by decide +kernel
theorem d_LAW_1852 : decode m_LAW.2.1 1852 = .ok (.ifCond .ne 22, 3) := by decide +kernel
theorem d_LAW_1855 : decode m_LAW.2.1 1855 = .ok (.aload_n 3, 1) := by decide +kernel
theorem d_LAW_1856 : decode m_LAW.2.1 1856 = .ok (.iconst 0, 1) := by decide +kernel
theorem d_LAW_1857 : decode m_LAW.2.1 1857 = .ok (.laload, 1) := by decide +kernel
theorem d_LAW_1858 : decode m_LAW.2.1 1858 = .ok (.iload 6, 2) := by decide +kernel
theorem d_LAW_1860 : decode m_LAW.2.1 1860 = .ok (.ifCond .eq 7, 3) := by decide +kernel
theorem d_LAW_1863 : decode m_LAW.2.1 1863 = .ok (.lconst 1, 1) := by decide +kernel
theorem d_LAW_1864 : decode m_LAW.2.1 1864 = .ok (.goto 4, 3) := by decide +kernel
theorem d_LAW_1867 : decode m_LAW.2.1 1867 = .ok (.lconst 0, 1) := by decide +kernel
theorem d_LAW_1868 : decode m_LAW.2.1 1868 = .ok (.lcmp, 1) := by decide +kernel
theorem d_LAW_1869 : decode m_LAW.2.1 1869 = .ok (.ifCond .eq 5, 3) := by decide +kernel
theorem d_LAW_1872 : decode m_LAW.2.1 1872 = .ok (.iconst 0, 1) := by decide +kernel
theorem d_LAW_1873 : decode m_LAW.2.1 1873 = .ok (.ireturn, 1) := by decide +kernel
theorem d_LAW_1874 : decode m_LAW.2.1 1874 = .ok (.goto 1689, 3) := by decide +kernel
theorem d_LAW_1877 : decode m_LAW.2.1 1877 = .ok (.aload_n 1, 1) := by decide +kernel
theorem d_LAW_1878 : decode m_LAW.2.1 1878 = .ok (.aload_n 0, 1) := by decide +kernel
theorem d_LAW_1879 : decode m_LAW.2.1 1879 = .ok (.iload 4, 2) := by decide +kernel
theorem d_LAW_1881 : decode m_LAW.2.1 1881 = .ok (.iconst 1, 1) := by decide +kernel
theorem d_LAW_1882 : decode m_LAW.2.1 1882 = .ok (.iadd, 1) := by decide +kernel
theorem d_LAW_1883 : decode m_LAW.2.1 1883 = .ok (.iaload, 1) := by decide +kernel
theorem d_LAW_1884 : decode m_LAW.2.1 1884 = .ok (.aload_n 0, 1) := by decide +kernel
theorem d_LAW_1885 : decode m_LAW.2.1 1885 = .ok (.iload 4, 2) := by decide +kernel
theorem d_LAW_1887 : decode m_LAW.2.1 1887 = .ok (.iconst 2, 1) := by decide +kernel
theorem d_LAW_1888 : decode m_LAW.2.1 1888 = .ok (.iadd, 1) := by decide +kernel
theorem d_LAW_1889 : decode m_LAW.2.1 1889 = .ok (.iaload, 1) := by decide +kernel
theorem d_LAW_1890 : decode m_LAW.2.1 1890 = .ok (.invokestatic 253, 3) := by decide +kernel
theorem d_LAW_1893 : decode m_LAW.2.1 1893 = .ok (.istore 5, 2) := by decide +kernel
theorem d_LAW_1895 : decode m_LAW.2.1 1895 = .ok (.aload_n 2, 1) := by decide +kernel
theorem d_LAW_1896 : decode m_LAW.2.1 1896 = .ok (.aload_n 0, 1) := by decide +kernel
theorem d_LAW_1897 : decode m_LAW.2.1 1897 = .ok (.iload 4, 2) := by decide +kernel
theorem d_LAW_1899 : decode m_LAW.2.1 1899 = .ok (.iconst 1, 1) := by decide +kernel
theorem d_LAW_1900 : decode m_LAW.2.1 1900 = .ok (.iadd, 1) := by decide +kernel
theorem d_LAW_1901 : decode m_LAW.2.1 1901 = .ok (.iaload, 1) := by decide +kernel
theorem d_LAW_1902 : decode m_LAW.2.1 1902 = .ok (.aload_n 0, 1) := by decide +kernel
theorem d_LAW_1903 : decode m_LAW.2.1 1903 = .ok (.iload 4, 2) := by decide +kernel
theorem d_LAW_1905 : decode m_LAW.2.1 1905 = .ok (.iconst 2, 1) := by decide +kernel
theorem d_LAW_1906 : decode m_LAW.2.1 1906 = .ok (.iadd, 1) := by decide +kernel
theorem d_LAW_1907 : decode m_LAW.2.1 1907 = .ok (.iaload, 1) := by decide +kernel
theorem d_LAW_1908 : decode m_LAW.2.1 1908 = .ok (.invokevirtual 256, 3) := by decide +kernel
theorem d_LAW_1911 : decode m_LAW.2.1 1911 = .ok (.aload_n 2, 1) := by decide +kernel
theorem d_LAW_1912 : decode m_LAW.2.1 1912 = .ok (.invokevirtual 164, 3) := by decide +kernel
theorem d_LAW_1915 : decode m_LAW.2.1 1915 = .ok (.iload 5, 2) := by decide +kernel
theorem d_LAW_1917 : decode m_LAW.2.1 1917 = .ok (.if_icmp .eq 5, 3) := by decide +kernel
theorem d_LAW_1920 : decode m_LAW.2.1 1920 = .ok (.iconst 0, 1) := by decide +kernel
theorem d_LAW_1921 : decode m_LAW.2.1 1921 = .ok (.ireturn, 1) := by decide +kernel
theorem d_LAW_1922 : decode m_LAW.2.1 1922 = .ok (.goto 1641, 3) := by decide +kernel
theorem d_LAW_1925 : decode m_LAW.2.1 1925 = .ok (.aload_n 1, 1) := by decide +kernel
theorem d_LAW_1926 : decode m_LAW.2.1 1926 = .ok (.aload_n 0, 1) := by decide +kernel
theorem d_LAW_1927 : decode m_LAW.2.1 1927 = .ok (.iload 4, 2) := by decide +kernel
theorem d_LAW_1929 : decode m_LAW.2.1 1929 = .ok (.iconst 1, 1) := by decide +kernel
theorem d_LAW_1930 : decode m_LAW.2.1 1930 = .ok (.iadd, 1) := by decide +kernel
theorem d_LAW_1931 : decode m_LAW.2.1 1931 = .ok (.iaload, 1) := by decide +kernel
theorem d_LAW_1932 : decode m_LAW.2.1 1932 = .ok (.aload_n 0, 1) := by decide +kernel
theorem d_LAW_1933 : decode m_LAW.2.1 1933 = .ok (.iload 4, 2) := by decide +kernel
theorem d_LAW_1935 : decode m_LAW.2.1 1935 = .ok (.iconst 2, 1) := by decide +kernel
theorem d_LAW_1936 : decode m_LAW.2.1 1936 = .ok (.iadd, 1) := by decide +kernel
theorem d_LAW_1937 : decode m_LAW.2.1 1937 = .ok (.iaload, 1) := by decide +kernel
theorem d_LAW_1938 : decode m_LAW.2.1 1938 = .ok (.aload_n 3, 1) := by decide +kernel
theorem d_LAW_1939 : decode m_LAW.2.1 1939 = .ok (.invokestatic 257, 3) := by decide +kernel
theorem d_LAW_1942 : decode m_LAW.2.1 1942 = .ok (.istore 5, 2) := by decide +kernel
theorem d_LAW_1944 : decode m_LAW.2.1 1944 = .ok (.aload_n 2, 1) := by decide +kernel
theorem d_LAW_1945 : decode m_LAW.2.1 1945 = .ok (.aload_n 0, 1) := by decide +kernel
theorem d_LAW_1946 : decode m_LAW.2.1 1946 = .ok (.iload 4, 2) := by decide +kernel
theorem d_LAW_1948 : decode m_LAW.2.1 1948 = .ok (.iconst 1, 1) := by decide +kernel
theorem d_LAW_1949 : decode m_LAW.2.1 1949 = .ok (.iadd, 1) := by decide +kernel
theorem d_LAW_1950 : decode m_LAW.2.1 1950 = .ok (.iaload, 1) := by decide +kernel
theorem d_LAW_1951 : decode m_LAW.2.1 1951 = .ok (.aload_n 0, 1) := by decide +kernel
theorem d_LAW_1952 : decode m_LAW.2.1 1952 = .ok (.iload 4, 2) := by decide +kernel
theorem d_LAW_1954 : decode m_LAW.2.1 1954 = .ok (.iconst 2, 1) := by decide +kernel
theorem d_LAW_1955 : decode m_LAW.2.1 1955 = .ok (.iadd, 1) := by decide +kernel
theorem d_LAW_1956 : decode m_LAW.2.1 1956 = .ok (.iaload, 1) := by decide +kernel
theorem d_LAW_1957 : decode m_LAW.2.1 1957 = .ok (.invokevirtual 259, 3) := by decide +kernel
theorem d_LAW_1960 : decode m_LAW.2.1 1960 = .ok (.istore 6, 2) := by decide +kernel
theorem d_LAW_1962 : decode m_LAW.2.1 1962 = .ok (.aload_n 2, 1) := by decide +kernel
theorem d_LAW_1963 : decode m_LAW.2.1 1963 = .ok (.invokevirtual 164, 3) := by decide +kernel
theorem d_LAW_1966 : decode m_LAW.2.1 1966 = .ok (.iload 5, 2) := by decide +kernel
theorem d_LAW_1968 : decode m_LAW.2.1 1968 = .ok (.if_icmp .eq 5, 3) := by decide +kernel
theorem d_LAW_1971 : decode m_LAW.2.1 1971 = .ok (.iconst 0, 1) := by decide +kernel
theorem d_LAW_1972 : decode m_LAW.2.1 1972 = .ok (.ireturn, 1) := by decide +kernel
theorem d_LAW_1973 : decode m_LAW.2.1 1973 = .ok (.iload 5, 2) := by decide +kernel
theorem d_LAW_1975 : decode m_LAW.2.1 1975 = .ok (.ifCond .ne 15, 3) := by decide +kernel
theorem d_LAW_1978 : decode m_LAW.2.1 1978 = .ok (.aload_n 3, 1) := by decide +kernel
theorem d_LAW_1979 : decode m_LAW.2.1 1979 = .ok (.iconst 0, 1) := by decide +kernel
theorem d_LAW_1980 : decode m_LAW.2.1 1980 = .ok (.laload, 1) := by decide +kernel
theorem d_LAW_1981 : decode m_LAW.2.1 1981 = .ok (.iload 6, 2) := by decide +kernel
theorem d_LAW_1983 : decode m_LAW.2.1 1983 = .ok (.i2l, 1) := by decide +kernel
theorem d_LAW_1984 : decode m_LAW.2.1 1984 = .ok (.lcmp, 1) := by decide +kernel
theorem d_LAW_1985 : decode m_LAW.2.1 1985 = .ok (.ifCond .eq 5, 3) := by decide +kernel
theorem d_LAW_1988 : decode m_LAW.2.1 1988 = .ok (.iconst 0, 1) := by decide +kernel
theorem d_LAW_1989 : decode m_LAW.2.1 1989 = .ok (.ireturn, 1) := by decide +kernel
theorem d_LAW_1990 : decode m_LAW.2.1 1990 = .ok (.goto 1573, 3) := by decide +kernel
theorem d_LAW_1993 : decode m_LAW.2.1 1993 = .ok (.aload_n 1, 1) := by decide +kernel
theorem d_LAW_1994 : decode m_LAW.2.1 1994 = .ok (.aload_n 0, 1) := by decide +kernel
theorem d_LAW_1995 : decode m_LAW.2.1 1995 = .ok (.iload 4, 2) := by decide +kernel
theorem d_LAW_1997 : decode m_LAW.2.1 1997 = .ok (.iconst 1, 1) := by decide +kernel
theorem d_LAW_1998 : decode m_LAW.2.1 1998 = .ok (.iadd, 1) := by decide +kernel
theorem d_LAW_1999 : decode m_LAW.2.1 1999 = .ok (.iaload, 1) := by decide +kernel
theorem d_LAW_2000 : decode m_LAW.2.1 2000 = .ok (.aload_n 0, 1) := by decide +kernel
theorem d_LAW_2001 : decode m_LAW.2.1 2001 = .ok (.iload 4, 2) := by decide +kernel
theorem d_LAW_2003 : decode m_LAW.2.1 2003 = .ok (.iconst 2, 1) := by decide +kernel
theorem d_LAW_2004 : decode m_LAW.2.1 2004 = .ok (.iadd, 1) := by decide +kernel
theorem d_LAW_2005 : decode m_LAW.2.1 2005 = .ok (.iaload, 1) := by decide +kernel
theorem d_LAW_2006 : decode m_LAW.2.1 2006 = .ok (.aload_n 0, 1) := by decide +kernel
theorem d_LAW_2007 : decode m_LAW.2.1 2007 = .ok (.iload 4, 2) := by decide +kernel
theorem d_LAW_2009 : decode m_LAW.2.1 2009 = .ok (.iconst 3, 1) := by decide +kernel
theorem d_LAW_2010 : decode m_LAW.2.1 2010 = .ok (.iadd, 1) := by decide +kernel
theorem d_LAW_2011 : decode m_LAW.2.1 2011 = .ok (.iaload, 1) := by decide +kernel
theorem d_LAW_2012 : decode m_LAW.2.1 2012 = .ok (.aload_n 0, 1) := by decide +kernel
theorem d_LAW_2013 : decode m_LAW.2.1 2013 = .ok (.iload 4, 2) := by decide +kernel
theorem d_LAW_2015 : decode m_LAW.2.1 2015 = .ok (.iconst 4, 1) := by decide +kernel
theorem d_LAW_2016 : decode m_LAW.2.1 2016 = .ok (.iadd, 1) := by decide +kernel
theorem d_LAW_2017 : decode m_LAW.2.1 2017 = .ok (.iaload, 1) := by decide +kernel
theorem d_LAW_2018 : decode m_LAW.2.1 2018 = .ok (.aload_n 3, 1) := by decide +kernel
theorem d_LAW_2019 : decode m_LAW.2.1 2019 = .ok (.invokestatic 260, 3) := by decide +kernel
theorem d_LAW_2022 : decode m_LAW.2.1 2022 = .ok (.istore 5, 2) := by decide +kernel
theorem d_LAW_2024 : decode m_LAW.2.1 2024 = .ok (.aload_n 2, 1) := by decide +kernel
theorem d_LAW_2025 : decode m_LAW.2.1 2025 = .ok (.aload_n 0, 1) := by decide +kernel
theorem d_LAW_2026 : decode m_LAW.2.1 2026 = .ok (.iload 4, 2) := by decide +kernel
theorem d_LAW_2028 : decode m_LAW.2.1 2028 = .ok (.iconst 1, 1) := by decide +kernel
theorem d_LAW_2029 : decode m_LAW.2.1 2029 = .ok (.iadd, 1) := by decide +kernel
theorem d_LAW_2030 : decode m_LAW.2.1 2030 = .ok (.iaload, 1) := by decide +kernel
theorem d_LAW_2031 : decode m_LAW.2.1 2031 = .ok (.aload_n 0, 1) := by decide +kernel
theorem d_LAW_2032 : decode m_LAW.2.1 2032 = .ok (.iload 4, 2) := by decide +kernel
theorem d_LAW_2034 : decode m_LAW.2.1 2034 = .ok (.iconst 2, 1) := by decide +kernel
theorem d_LAW_2035 : decode m_LAW.2.1 2035 = .ok (.iadd, 1) := by decide +kernel
theorem d_LAW_2036 : decode m_LAW.2.1 2036 = .ok (.iaload, 1) := by decide +kernel
theorem d_LAW_2037 : decode m_LAW.2.1 2037 = .ok (.aload_n 0, 1) := by decide +kernel
theorem d_LAW_2038 : decode m_LAW.2.1 2038 = .ok (.iload 4, 2) := by decide +kernel
theorem d_LAW_2040 : decode m_LAW.2.1 2040 = .ok (.iconst 3, 1) := by decide +kernel
theorem d_LAW_2041 : decode m_LAW.2.1 2041 = .ok (.iadd, 1) := by decide +kernel
theorem d_LAW_2042 : decode m_LAW.2.1 2042 = .ok (.iaload, 1) := by decide +kernel
theorem d_LAW_2043 : decode m_LAW.2.1 2043 = .ok (.aload_n 0, 1) := by decide +kernel
theorem d_LAW_2044 : decode m_LAW.2.1 2044 = .ok (.iload 4, 2) := by decide +kernel
theorem d_LAW_2046 : decode m_LAW.2.1 2046 = .ok (.iconst 4, 1) := by decide +kernel
theorem d_LAW_2047 : decode m_LAW.2.1 2047 = .ok (.iadd, 1) := by decide +kernel
theorem d_LAW_2048 : decode m_LAW.2.1 2048 = .ok (.iaload, 1) := by decide +kernel
theorem d_LAW_2049 : decode m_LAW.2.1 2049 = .ok (.invokevirtual 262, 3) := by decide +kernel
theorem d_LAW_2052 : decode m_LAW.2.1 2052 = .ok (.istore 6, 2) := by decide +kernel
theorem d_LAW_2054 : decode m_LAW.2.1 2054 = .ok (.aload_n 2, 1) := by decide +kernel
theorem d_LAW_2055 : decode m_LAW.2.1 2055 = .ok (.invokevirtual 164, 3) := by decide +kernel
theorem d_LAW_2058 : decode m_LAW.2.1 2058 = .ok (.iload 5, 2) := by decide +kernel
theorem d_LAW_2060 : decode m_LAW.2.1 2060 = .ok (.if_icmp .eq 5, 3) := by decide +kernel
theorem d_LAW_2063 : decode m_LAW.2.1 2063 = .ok (.iconst 0, 1) := by decide +kernel
theorem d_LAW_2064 : decode m_LAW.2.1 2064 = .ok (.ireturn, 1) := by decide +kernel
theorem d_LAW_2065 : decode m_LAW.2.1 2065 = .ok (.iload 5, 2) := by decide +kernel
theorem d_LAW_2067 : decode m_LAW.2.1 2067 = .ok (.ifCond .ne 15, 3) := by decide +kernel
theorem d_LAW_2070 : decode m_LAW.2.1 2070 = .ok (.aload_n 3, 1) := by decide +kernel
theorem d_LAW_2071 : decode m_LAW.2.1 2071 = .ok (.iconst 0, 1) := by decide +kernel
theorem d_LAW_2072 : decode m_LAW.2.1 2072 = .ok (.laload, 1) := by decide +kernel
theorem d_LAW_2073 : decode m_LAW.2.1 2073 = .ok (.iload 6, 2) := by decide +kernel
theorem d_LAW_2075 : decode m_LAW.2.1 2075 = .ok (.i2l, 1) := by decide +kernel
theorem d_LAW_2076 : decode m_LAW.2.1 2076 = .ok (.lcmp, 1) := by decide +kernel
theorem d_LAW_2077 : decode m_LAW.2.1 2077 = .ok (.ifCond .eq 5, 3) := by decide +kernel
theorem d_LAW_2080 : decode m_LAW.2.1 2080 = .ok (.iconst 0, 1) := by decide +kernel
theorem d_LAW_2081 : decode m_LAW.2.1 2081 = .ok (.ireturn, 1) := by decide +kernel
theorem d_LAW_2082 : decode m_LAW.2.1 2082 = .ok (.goto 1481, 3) := by decide +kernel
theorem d_LAW_2085 : decode m_LAW.2.1 2085 = .ok (.aload_n 1, 1) := by decide +kernel
theorem d_LAW_2086 : decode m_LAW.2.1 2086 = .ok (.aload_n 0, 1) := by decide +kernel
theorem d_LAW_2087 : decode m_LAW.2.1 2087 = .ok (.iload 4, 2) := by decide +kernel
theorem d_LAW_2089 : decode m_LAW.2.1 2089 = .ok (.iconst 1, 1) := by decide +kernel
theorem d_LAW_2090 : decode m_LAW.2.1 2090 = .ok (.iadd, 1) := by decide +kernel
theorem d_LAW_2091 : decode m_LAW.2.1 2091 = .ok (.iaload, 1) := by decide +kernel
theorem d_LAW_2092 : decode m_LAW.2.1 2092 = .ok (.aload_n 0, 1) := by decide +kernel
theorem d_LAW_2093 : decode m_LAW.2.1 2093 = .ok (.iload 4, 2) := by decide +kernel
theorem d_LAW_2095 : decode m_LAW.2.1 2095 = .ok (.iconst 2, 1) := by decide +kernel
theorem d_LAW_2096 : decode m_LAW.2.1 2096 = .ok (.iadd, 1) := by decide +kernel
theorem d_LAW_2097 : decode m_LAW.2.1 2097 = .ok (.iaload, 1) := by decide +kernel
theorem d_LAW_2098 : decode m_LAW.2.1 2098 = .ok (.aload_n 0, 1) := by decide +kernel
theorem d_LAW_2099 : decode m_LAW.2.1 2099 = .ok (.iload 4, 2) := by decide +kernel
theorem d_LAW_2101 : decode m_LAW.2.1 2101 = .ok (.iconst 3, 1) := by decide +kernel
theorem d_LAW_2102 : decode m_LAW.2.1 2102 = .ok (.iadd, 1) := by decide +kernel
theorem d_LAW_2103 : decode m_LAW.2.1 2103 = .ok (.iaload, 1) := by decide +kernel
theorem d_LAW_2104 : decode m_LAW.2.1 2104 = .ok (.aload_n 3, 1) := by decide +kernel
theorem d_LAW_2105 : decode m_LAW.2.1 2105 = .ok (.invokestatic 263, 3) := by decide +kernel
theorem d_LAW_2108 : decode m_LAW.2.1 2108 = .ok (.istore 5, 2) := by decide +kernel
theorem d_LAW_2110 : decode m_LAW.2.1 2110 = .ok (.aload_n 2, 1) := by decide +kernel
theorem d_LAW_2111 : decode m_LAW.2.1 2111 = .ok (.aload_n 0, 1) := by decide +kernel
theorem d_LAW_2112 : decode m_LAW.2.1 2112 = .ok (.iload 4, 2) := by decide +kernel
theorem d_LAW_2114 : decode m_LAW.2.1 2114 = .ok (.iconst 1, 1) := by decide +kernel
theorem d_LAW_2115 : decode m_LAW.2.1 2115 = .ok (.iadd, 1) := by decide +kernel
theorem d_LAW_2116 : decode m_LAW.2.1 2116 = .ok (.iaload, 1) := by decide +kernel
theorem d_LAW_2117 : decode m_LAW.2.1 2117 = .ok (.aload_n 0, 1) := by decide +kernel
theorem d_LAW_2118 : decode m_LAW.2.1 2118 = .ok (.iload 4, 2) := by decide +kernel
theorem d_LAW_2120 : decode m_LAW.2.1 2120 = .ok (.iconst 2, 1) := by decide +kernel
theorem d_LAW_2121 : decode m_LAW.2.1 2121 = .ok (.iadd, 1) := by decide +kernel
theorem d_LAW_2122 : decode m_LAW.2.1 2122 = .ok (.iaload, 1) := by decide +kernel
theorem d_LAW_2123 : decode m_LAW.2.1 2123 = .ok (.aload_n 0, 1) := by decide +kernel
theorem d_LAW_2124 : decode m_LAW.2.1 2124 = .ok (.iload 4, 2) := by decide +kernel
theorem d_LAW_2126 : decode m_LAW.2.1 2126 = .ok (.iconst 3, 1) := by decide +kernel
theorem d_LAW_2127 : decode m_LAW.2.1 2127 = .ok (.iadd, 1) := by decide +kernel
theorem d_LAW_2128 : decode m_LAW.2.1 2128 = .ok (.iaload, 1) := by decide +kernel
theorem d_LAW_2129 : decode m_LAW.2.1 2129 = .ok (.invokevirtual 265, 3) := by decide +kernel
theorem d_LAW_2132 : decode m_LAW.2.1 2132 = .ok (.istore 6, 2) := by decide +kernel
theorem d_LAW_2134 : decode m_LAW.2.1 2134 = .ok (.aload_n 2, 1) := by decide +kernel
theorem d_LAW_2135 : decode m_LAW.2.1 2135 = .ok (.invokevirtual 164, 3) := by decide +kernel
theorem d_LAW_2138 : decode m_LAW.2.1 2138 = .ok (.iload 5, 2) := by decide +kernel
theorem d_LAW_2140 : decode m_LAW.2.1 2140 = .ok (.if_icmp .eq 5, 3) := by decide +kernel
theorem d_LAW_2143 : decode m_LAW.2.1 2143 = .ok (.iconst 0, 1) := by decide +kernel
theorem d_LAW_2144 : decode m_LAW.2.1 2144 = .ok (.ireturn, 1) := by decide +kernel
theorem d_LAW_2145 : decode m_LAW.2.1 2145 = .ok (.iload 5, 2) := by decide +kernel
theorem d_LAW_2147 : decode m_LAW.2.1 2147 = .ok (.ifCond .ne 15, 3) := by decide +kernel
theorem d_LAW_2150 : decode m_LAW.2.1 2150 = .ok (.aload_n 3, 1) := by decide +kernel
theorem d_LAW_2151 : decode m_LAW.2.1 2151 = .ok (.iconst 0, 1) := by decide +kernel
theorem d_LAW_2152 : decode m_LAW.2.1 2152 = .ok (.laload, 1) := by decide +kernel
theorem d_LAW_2153 : decode m_LAW.2.1 2153 = .ok (.iload 6, 2) := by decide +kernel
theorem d_LAW_2155 : decode m_LAW.2.1 2155 = .ok (.i2l, 1) := by decide +kernel
theorem d_LAW_2156 : decode m_LAW.2.1 2156 = .ok (.lcmp, 1) := by decide +kernel
theorem d_LAW_2157 : decode m_LAW.2.1 2157 = .ok (.ifCond .eq 5, 3) := by decide +kernel
theorem d_LAW_2160 : decode m_LAW.2.1 2160 = .ok (.iconst 0, 1) := by decide +kernel
theorem d_LAW_2161 : decode m_LAW.2.1 2161 = .ok (.ireturn, 1) := by decide +kernel
theorem d_LAW_2162 : decode m_LAW.2.1 2162 = .ok (.goto 1401, 3) := by decide +kernel
theorem d_LAW_2165 : decode m_LAW.2.1 2165 = .ok (.aload_n 1, 1) := by decide +kernel
theorem d_LAW_2166 : decode m_LAW.2.1 2166 = .ok (.aload_n 0, 1) := by decide +kernel
theorem d_LAW_2167 : decode m_LAW.2.1 2167 = .ok (.iload 4, 2) := by decide +kernel
theorem d_LAW_2169 : decode m_LAW.2.1 2169 = .ok (.iconst 1, 1) := by decide +kernel
theorem d_LAW_2170 : decode m_LAW.2.1 2170 = .ok (.iadd, 1) := by decide +kernel
theorem d_LAW_2171 : decode m_LAW.2.1 2171 = .ok (.iaload, 1) := by decide +kernel
theorem d_LAW_2172 : decode m_LAW.2.1 2172 = .ok (.aload_n 0, 1) := by decide +kernel
theorem d_LAW_2173 : decode m_LAW.2.1 2173 = .ok (.iload 4, 2) := by decide +kernel
theorem d_LAW_2175 : decode m_LAW.2.1 2175 = .ok (.iconst 2, 1) := by decide +kernel
theorem d_LAW_2176 : decode m_LAW.2.1 2176 = .ok (.iadd, 1) := by decide +kernel
theorem d_LAW_2177 : decode m_LAW.2.1 2177 = .ok (.iaload, 1) := by decide +kernel
theorem d_LAW_2178 : decode m_LAW.2.1 2178 = .ok (.aload_n 3, 1) := by decide +kernel
theorem d_LAW_2179 : decode m_LAW.2.1 2179 = .ok (.invokestatic 266, 3) := by decide +kernel
theorem d_LAW_2182 : decode m_LAW.2.1 2182 = .ok (.istore 5, 2) := by decide +kernel
theorem d_LAW_2184 : decode m_LAW.2.1 2184 = .ok (.aload_n 2, 1) := by decide +kernel
theorem d_LAW_2185 : decode m_LAW.2.1 2185 = .ok (.aload_n 0, 1) := by decide +kernel
theorem d_LAW_2186 : decode m_LAW.2.1 2186 = .ok (.iload 4, 2) := by decide +kernel
theorem d_LAW_2188 : decode m_LAW.2.1 2188 = .ok (.iconst 1, 1) := by decide +kernel
theorem d_LAW_2189 : decode m_LAW.2.1 2189 = .ok (.iadd, 1) := by decide +kernel
theorem d_LAW_2190 : decode m_LAW.2.1 2190 = .ok (.iaload, 1) := by decide +kernel
theorem d_LAW_2191 : decode m_LAW.2.1 2191 = .ok (.aload_n 0, 1) := by decide +kernel
theorem d_LAW_2192 : decode m_LAW.2.1 2192 = .ok (.iload 4, 2) := by decide +kernel
theorem d_LAW_2194 : decode m_LAW.2.1 2194 = .ok (.iconst 2, 1) := by decide +kernel
theorem d_LAW_2195 : decode m_LAW.2.1 2195 = .ok (.iadd, 1) := by decide +kernel
theorem d_LAW_2196 : decode m_LAW.2.1 2196 = .ok (.iaload, 1) := by decide +kernel
theorem d_LAW_2197 : decode m_LAW.2.1 2197 = .ok (.invokevirtual 268, 3) := by decide +kernel
theorem d_LAW_2200 : decode m_LAW.2.1 2200 = .ok (.istore 6, 2) := by decide +kernel
theorem d_LAW_2202 : decode m_LAW.2.1 2202 = .ok (.aload_n 2, 1) := by decide +kernel
theorem d_LAW_2203 : decode m_LAW.2.1 2203 = .ok (.invokevirtual 164, 3) := by decide +kernel
theorem d_LAW_2206 : decode m_LAW.2.1 2206 = .ok (.iload 5, 2) := by decide +kernel
theorem d_LAW_2208 : decode m_LAW.2.1 2208 = .ok (.if_icmp .eq 5, 3) := by decide +kernel
theorem d_LAW_2211 : decode m_LAW.2.1 2211 = .ok (.iconst 0, 1) := by decide +kernel
theorem d_LAW_2212 : decode m_LAW.2.1 2212 = .ok (.ireturn, 1) := by decide +kernel
theorem d_LAW_2213 : decode m_LAW.2.1 2213 = .ok (.iload 5, 2) := by decide +kernel
theorem d_LAW_2215 : decode m_LAW.2.1 2215 = .ok (.ifCond .ne 22, 3) := by decide +kernel
theorem d_LAW_2218 : decode m_LAW.2.1 2218 = .ok (.aload_n 3, 1) := by decide +kernel
theorem d_LAW_2219 : decode m_LAW.2.1 2219 = .ok (.iconst 0, 1) := by decide +kernel
theorem d_LAW_2220 : decode m_LAW.2.1 2220 = .ok (.laload, 1) := by decide +kernel
theorem d_LAW_2221 : decode m_LAW.2.1 2221 = .ok (.iload 6, 2) := by decide +kernel
theorem d_LAW_2223 : decode m_LAW.2.1 2223 = .ok (.ifCond .eq 7, 3) := by decide +kernel
theorem d_LAW_2226 : decode m_LAW.2.1 2226 = .ok (.lconst 1, 1) := by decide +kernel
theorem d_LAW_2227 : decode m_LAW.2.1 2227 = .ok (.goto 4, 3) := by decide +kernel
theorem d_LAW_2230 : decode m_LAW.2.1 2230 = .ok (.lconst 0, 1) := by decide +kernel
theorem d_LAW_2231 : decode m_LAW.2.1 2231 = .ok (.lcmp, 1) := by decide +kernel
theorem d_LAW_2232 : decode m_LAW.2.1 2232 = .ok (.ifCond .eq 5, 3) := by decide +kernel
theorem d_LAW_2235 : decode m_LAW.2.1 2235 = .ok (.iconst 0, 1) := by decide +kernel
theorem d_LAW_2236 : decode m_LAW.2.1 2236 = .ok (.ireturn, 1) := by decide +kernel
theorem d_LAW_2237 : decode m_LAW.2.1 2237 = .ok (.goto 1326, 3) := by decide +kernel
theorem d_LAW_2240 : decode m_LAW.2.1 2240 = .ok (.aload_n 1, 1) := by decide +kernel
theorem d_LAW_2241 : decode m_LAW.2.1 2241 = .ok (.aload_n 0, 1) := by decide +kernel
theorem d_LAW_2242 : decode m_LAW.2.1 2242 = .ok (.iload 4, 2) := by decide +kernel
theorem d_LAW_2244 : decode m_LAW.2.1 2244 = .ok (.iconst 1, 1) := by decide +kernel
theorem d_LAW_2245 : decode m_LAW.2.1 2245 = .ok (.iadd, 1) := by decide +kernel
theorem d_LAW_2246 : decode m_LAW.2.1 2246 = .ok (.iaload, 1) := by decide +kernel
theorem d_LAW_2247 : decode m_LAW.2.1 2247 = .ok (.aload_n 3, 1) := by decide +kernel
theorem d_LAW_2248 : decode m_LAW.2.1 2248 = .ok (.invokestatic 269, 3) := by decide +kernel
theorem d_LAW_2251 : decode m_LAW.2.1 2251 = .ok (.istore 5, 2) := by decide +kernel
theorem d_LAW_2253 : decode m_LAW.2.1 2253 = .ok (.aload_n 2, 1) := by decide +kernel
theorem d_LAW_2254 : decode m_LAW.2.1 2254 = .ok (.aload_n 0, 1) := by decide +kernel
theorem d_LAW_2255 : decode m_LAW.2.1 2255 = .ok (.iload 4, 2) := by decide +kernel
theorem d_LAW_2257 : decode m_LAW.2.1 2257 = .ok (.iconst 1, 1) := by decide +kernel
theorem d_LAW_2258 : decode m_LAW.2.1 2258 = .ok (.iadd, 1) := by decide +kernel
theorem d_LAW_2259 : decode m_LAW.2.1 2259 = .ok (.iaload, 1) := by decide +kernel
theorem d_LAW_2260 : decode m_LAW.2.1 2260 = .ok (.invokevirtual 271, 3) := by decide +kernel
theorem d_LAW_2263 : decode m_LAW.2.1 2263 = .ok (.istore 6, 2) := by decide +kernel
theorem d_LAW_2265 : decode m_LAW.2.1 2265 = .ok (.aload_n 2, 1) := by decide +kernel
theorem d_LAW_2266 : decode m_LAW.2.1 2266 = .ok (.invokevirtual 164, 3) := by decide +kernel
theorem d_LAW_2269 : decode m_LAW.2.1 2269 = .ok (.iload 5, 2) := by decide +kernel
theorem d_LAW_2271 : decode m_LAW.2.1 2271 = .ok (.if_icmp .eq 5, 3) := by decide +kernel
theorem d_LAW_2274 : decode m_LAW.2.1 2274 = .ok (.iconst 0, 1) := by decide +kernel
theorem d_LAW_2275 : decode m_LAW.2.1 2275 = .ok (.ireturn, 1) := by decide +kernel
theorem d_LAW_2276 : decode m_LAW.2.1 2276 = .ok (.iload 5, 2) := by decide +kernel
theorem d_LAW_2278 : decode m_LAW.2.1 2278 = .ok (.ifCond .ne 15, 3) := by decide +kernel
theorem d_LAW_2281 : decode m_LAW.2.1 2281 = .ok (.aload_n 3, 1) := by decide +kernel
theorem d_LAW_2282 : decode m_LAW.2.1 2282 = .ok (.iconst 0, 1) := by decide +kernel
theorem d_LAW_2283 : decode m_LAW.2.1 2283 = .ok (.laload, 1) := by decide +kernel
theorem d_LAW_2284 : decode m_LAW.2.1 2284 = .ok (.iload 6, 2) := by decide +kernel
theorem d_LAW_2286 : decode m_LAW.2.1 2286 = .ok (.i2l, 1) := by decide +kernel
theorem d_LAW_2287 : decode m_LAW.2.1 2287 = .ok (.lcmp, 1) := by decide +kernel
theorem d_LAW_2288 : decode m_LAW.2.1 2288 = .ok (.ifCond .eq 5, 3) := by decide +kernel
theorem d_LAW_2291 : decode m_LAW.2.1 2291 = .ok (.iconst 0, 1) := by decide +kernel
theorem d_LAW_2292 : decode m_LAW.2.1 2292 = .ok (.ireturn, 1) := by decide +kernel
theorem d_LAW_2293 : decode m_LAW.2.1 2293 = .ok (.goto 1270, 3) := by decide +kernel
theorem d_LAW_2296 : decode m_LAW.2.1 2296 = .ok (.aload_n 1, 1) := by decide +kernel
theorem d_LAW_2297 : decode m_LAW.2.1 2297 = .ok (.aload_n 0, 1) := by decide +kernel
theorem d_LAW_2298 : decode m_LAW.2.1 2298 = .ok (.iload 4, 2) := by decide +kernel
theorem d_LAW_2300 : decode m_LAW.2.1 2300 = .ok (.iconst 1, 1) := by decide +kernel
theorem d_LAW_2301 : decode m_LAW.2.1 2301 = .ok (.iadd, 1) := by decide +kernel
theorem d_LAW_2302 : decode m_LAW.2.1 2302 = .ok (.iaload, 1) := by decide +kernel
theorem d_LAW_2303 : decode m_LAW.2.1 2303 = .ok (.aload_n 0, 1) := by decide +kernel
theorem d_LAW_2304 : decode m_LAW.2.1 2304 = .ok (.iload 4, 2) := by decide +kernel
theorem d_LAW_2306 : decode m_LAW.2.1 2306 = .ok (.iconst 2, 1) := by decide +kernel
theorem d_LAW_2307 : decode m_LAW.2.1 2307 = .ok (.iadd, 1) := by decide +kernel
theorem d_LAW_2308 : decode m_LAW.2.1 2308 = .ok (.iaload, 1) := by decide +kernel
theorem d_LAW_2309 : decode m_LAW.2.1 2309 = .ok (.aload_n 3, 1) := by decide +kernel
theorem d_LAW_2310 : decode m_LAW.2.1 2310 = .ok (.invokestatic 272, 3) := by decide +kernel
theorem d_LAW_2313 : decode m_LAW.2.1 2313 = .ok (.istore 5, 2) := by decide +kernel
theorem d_LAW_2315 : decode m_LAW.2.1 2315 = .ok (.aload_n 2, 1) := by decide +kernel
theorem d_LAW_2316 : decode m_LAW.2.1 2316 = .ok (.aload_n 0, 1) := by decide +kernel
theorem d_LAW_2317 : decode m_LAW.2.1 2317 = .ok (.iload 4, 2) := by decide +kernel
theorem d_LAW_2319 : decode m_LAW.2.1 2319 = .ok (.iconst 1, 1) := by decide +kernel
theorem d_LAW_2320 : decode m_LAW.2.1 2320 = .ok (.iadd, 1) := by decide +kernel
theorem d_LAW_2321 : decode m_LAW.2.1 2321 = .ok (.iaload, 1) := by decide +kernel
theorem d_LAW_2322 : decode m_LAW.2.1 2322 = .ok (.aload_n 0, 1) := by decide +kernel
theorem d_LAW_2323 : decode m_LAW.2.1 2323 = .ok (.iload 4, 2) := by decide +kernel
theorem d_LAW_2325 : decode m_LAW.2.1 2325 = .ok (.iconst 2, 1) := by decide +kernel
theorem d_LAW_2326 : decode m_LAW.2.1 2326 = .ok (.iadd, 1) := by decide +kernel
theorem d_LAW_2327 : decode m_LAW.2.1 2327 = .ok (.iaload, 1) := by decide +kernel
theorem d_LAW_2328 : decode m_LAW.2.1 2328 = .ok (.invokevirtual 274, 3) := by decide +kernel
theorem d_LAW_2331 : decode m_LAW.2.1 2331 = .ok (.istore 6, 2) := by decide +kernel
theorem d_LAW_2333 : decode m_LAW.2.1 2333 = .ok (.aload_n 2, 1) := by decide +kernel
theorem d_LAW_2334 : decode m_LAW.2.1 2334 = .ok (.invokevirtual 164, 3) := by decide +kernel
theorem d_LAW_2337 : decode m_LAW.2.1 2337 = .ok (.iload 5, 2) := by decide +kernel
theorem d_LAW_2339 : decode m_LAW.2.1 2339 = .ok (.if_icmp .eq 5, 3) := by decide +kernel
theorem d_LAW_2342 : decode m_LAW.2.1 2342 = .ok (.iconst 0, 1) := by decide +kernel
theorem d_LAW_2343 : decode m_LAW.2.1 2343 = .ok (.ireturn, 1) := by decide +kernel
theorem d_LAW_2344 : decode m_LAW.2.1 2344 = .ok (.iload 5, 2) := by decide +kernel
theorem d_LAW_2346 : decode m_LAW.2.1 2346 = .ok (.ifCond .ne 15, 3) := by decide +kernel
theorem d_LAW_2349 : decode m_LAW.2.1 2349 = .ok (.aload_n 3, 1) := by decide +kernel
theorem d_LAW_2350 : decode m_LAW.2.1 2350 = .ok (.iconst 0, 1) := by decide +kernel
theorem d_LAW_2351 : decode m_LAW.2.1 2351 = .ok (.laload, 1) := by decide +kernel
theorem d_LAW_2352 : decode m_LAW.2.1 2352 = .ok (.iload 6, 2) := by decide +kernel
theorem d_LAW_2354 : decode m_LAW.2.1 2354 = .ok (.i2l, 1) := by decide +kernel
theorem d_LAW_2355 : decode m_LAW.2.1 2355 = .ok (.lcmp, 1) := by decide +kernel
theorem d_LAW_2356 : decode m_LAW.2.1 2356 = .ok (.ifCond .eq 5, 3) := by decide +kernel
theorem d_LAW_2359 : decode m_LAW.2.1 2359 = .ok (.iconst 0, 1) := by decide +kernel
theorem d_LAW_2360 : decode m_LAW.2.1 2360 = .ok (.ireturn, 1) := by decide +kernel
theorem d_LAW_2361 : decode m_LAW.2.1 2361 = .ok (.goto 1202, 3) := by decide +kernel
theorem d_LAW_2364 : decode m_LAW.2.1 2364 = .ok (.aload_n 1, 1) := by decide +kernel
theorem d_LAW_2365 : decode m_LAW.2.1 2365 = .ok (.aload_n 0, 1) := by decide +kernel
theorem d_LAW_2366 : decode m_LAW.2.1 2366 = .ok (.iload 4, 2) := by decide +kernel
theorem d_LAW_2368 : decode m_LAW.2.1 2368 = .ok (.iconst 1, 1) := by decide +kernel
theorem d_LAW_2369 : decode m_LAW.2.1 2369 = .ok (.iadd, 1) := by decide +kernel
theorem d_LAW_2370 : decode m_LAW.2.1 2370 = .ok (.iaload, 1) := by decide +kernel
theorem d_LAW_2371 : decode m_LAW.2.1 2371 = .ok (.aload_n 0, 1) := by decide +kernel
theorem d_LAW_2372 : decode m_LAW.2.1 2372 = .ok (.iload 4, 2) := by decide +kernel
theorem d_LAW_2374 : decode m_LAW.2.1 2374 = .ok (.iconst 2, 1) := by decide +kernel
theorem d_LAW_2375 : decode m_LAW.2.1 2375 = .ok (.iadd, 1) := by decide +kernel
theorem d_LAW_2376 : decode m_LAW.2.1 2376 = .ok (.iaload, 1) := by decide +kernel
theorem d_LAW_2377 : decode m_LAW.2.1 2377 = .ok (.aload_n 0, 1) := by decide +kernel
theorem d_LAW_2378 : decode m_LAW.2.1 2378 = .ok (.iload 4, 2) := by decide +kernel
theorem d_LAW_2380 : decode m_LAW.2.1 2380 = .ok (.iconst 3, 1) := by decide +kernel
theorem d_LAW_2381 : decode m_LAW.2.1 2381 = .ok (.iadd, 1) := by decide +kernel
theorem d_LAW_2382 : decode m_LAW.2.1 2382 = .ok (.iaload, 1) := by decide +kernel
theorem d_LAW_2383 : decode m_LAW.2.1 2383 = .ok (.aload_n 0, 1) := by decide +kernel
theorem d_LAW_2384 : decode m_LAW.2.1 2384 = .ok (.iload 4, 2) := by decide +kernel
theorem d_LAW_2386 : decode m_LAW.2.1 2386 = .ok (.iconst 4, 1) := by decide +kernel
theorem d_LAW_2387 : decode m_LAW.2.1 2387 = .ok (.iadd, 1) := by decide +kernel
theorem d_LAW_2388 : decode m_LAW.2.1 2388 = .ok (.iaload, 1) := by decide +kernel
theorem d_LAW_2389 : decode m_LAW.2.1 2389 = .ok (.aload_n 0, 1) := by decide +kernel
theorem d_LAW_2390 : decode m_LAW.2.1 2390 = .ok (.iload 4, 2) := by decide +kernel
theorem d_LAW_2392 : decode m_LAW.2.1 2392 = .ok (.iconst 5, 1) := by decide +kernel
theorem d_LAW_2393 : decode m_LAW.2.1 2393 = .ok (.iadd, 1) := by decide +kernel
theorem d_LAW_2394 : decode m_LAW.2.1 2394 = .ok (.iaload, 1) := by decide +kernel
theorem d_LAW_2395 : decode m_LAW.2.1 2395 = .ok (.aload_n 3, 1) := by decide +kernel
theorem d_LAW_2396 : decode m_LAW.2.1 2396 = .ok (.invokestatic 275, 3) := by decide +kernel
theorem d_LAW_2399 : decode m_LAW.2.1 2399 = .ok (.istore 5, 2) := by decide +kernel
theorem d_LAW_2401 : decode m_LAW.2.1 2401 = .ok (.aload_n 2, 1) := by decide +kernel
theorem d_LAW_2402 : decode m_LAW.2.1 2402 = .ok (.aload_n 0, 1) := by decide +kernel
theorem d_LAW_2403 : decode m_LAW.2.1 2403 = .ok (.iload 4, 2) := by decide +kernel
theorem d_LAW_2405 : decode m_LAW.2.1 2405 = .ok (.iconst 1, 1) := by decide +kernel
theorem d_LAW_2406 : decode m_LAW.2.1 2406 = .ok (.iadd, 1) := by decide +kernel
theorem d_LAW_2407 : decode m_LAW.2.1 2407 = .ok (.iaload, 1) := by decide +kernel
theorem d_LAW_2408 : decode m_LAW.2.1 2408 = .ok (.aload_n 0, 1) := by decide +kernel
theorem d_LAW_2409 : decode m_LAW.2.1 2409 = .ok (.iload 4, 2) := by decide +kernel
theorem d_LAW_2411 : decode m_LAW.2.1 2411 = .ok (.iconst 2, 1) := by decide +kernel
theorem d_LAW_2412 : decode m_LAW.2.1 2412 = .ok (.iadd, 1) := by decide +kernel
theorem d_LAW_2413 : decode m_LAW.2.1 2413 = .ok (.iaload, 1) := by decide +kernel
theorem d_LAW_2414 : decode m_LAW.2.1 2414 = .ok (.aload_n 0, 1) := by decide +kernel
theorem d_LAW_2415 : decode m_LAW.2.1 2415 = .ok (.iload 4, 2) := by decide +kernel
theorem d_LAW_2417 : decode m_LAW.2.1 2417 = .ok (.iconst 3, 1) := by decide +kernel
theorem d_LAW_2418 : decode m_LAW.2.1 2418 = .ok (.iadd, 1) := by decide +kernel
theorem d_LAW_2419 : decode m_LAW.2.1 2419 = .ok (.iaload, 1) := by decide +kernel
theorem d_LAW_2420 : decode m_LAW.2.1 2420 = .ok (.aload_n 0, 1) := by decide +kernel
theorem d_LAW_2421 : decode m_LAW.2.1 2421 = .ok (.iload 4, 2) := by decide +kernel
theorem d_LAW_2423 : decode m_LAW.2.1 2423 = .ok (.iconst 4, 1) := by decide +kernel
theorem d_LAW_2424 : decode m_LAW.2.1 2424 = .ok (.iadd, 1) := by decide +kernel
theorem d_LAW_2425 : decode m_LAW.2.1 2425 = .ok (.iaload, 1) := by decide +kernel
theorem d_LAW_2426 : decode m_LAW.2.1 2426 = .ok (.aload_n 0, 1) := by decide +kernel
theorem d_LAW_2427 : decode m_LAW.2.1 2427 = .ok (.iload 4, 2) := by decide +kernel
theorem d_LAW_2429 : decode m_LAW.2.1 2429 = .ok (.iconst 5, 1) := by decide +kernel
theorem d_LAW_2430 : decode m_LAW.2.1 2430 = .ok (.iadd, 1) := by decide +kernel
theorem d_LAW_2431 : decode m_LAW.2.1 2431 = .ok (.iaload, 1) := by decide +kernel
theorem d_LAW_2432 : decode m_LAW.2.1 2432 = .ok (.invokevirtual 277, 3) := by decide +kernel
theorem d_LAW_2435 : decode m_LAW.2.1 2435 = .ok (.istore 6, 2) := by decide +kernel
theorem d_LAW_2437 : decode m_LAW.2.1 2437 = .ok (.aload_n 2, 1) := by decide +kernel
theorem d_LAW_2438 : decode m_LAW.2.1 2438 = .ok (.invokevirtual 164, 3) := by decide +kernel
theorem d_LAW_2441 : decode m_LAW.2.1 2441 = .ok (.iload 5, 2) := by decide +kernel
theorem d_LAW_2443 : decode m_LAW.2.1 2443 = .ok (.if_icmp .eq 5, 3) := by decide +kernel
theorem d_LAW_2446 : decode m_LAW.2.1 2446 = .ok (.iconst 0, 1) := by decide +kernel
theorem d_LAW_2447 : decode m_LAW.2.1 2447 = .ok (.ireturn, 1) := by decide +kernel
