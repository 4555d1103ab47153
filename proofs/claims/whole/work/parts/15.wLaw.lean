theorem ym_X11_told : Cond.instanceMethod yX11_told ∈ TT ∧ Cond.selects yX11_told.cls yX11_told yX11_told ∈ TT ∧ Cond.initialized yX11_told.cls ∈ TT ∧ Cond.code yX11_told cX11_told 2 (some .int) ∈ TT ∧ NoMH yX11_told 1 := ⟨TT_mem 1709 (by decide +kernel) (by decide +kernel), TT_mem 1710 (by decide +kernel) (by decide +kernel), TT_mem 109 (by decide +kernel) (by decide +kernel), TT_mem 1711 (by decide +kernel) (by decide +kernel), (by decide +kernel), (by decide +kernel), (by decide +kernel)⟩
theorem ym_X11_count : Cond.instanceMethod yX11_count ∈ TT ∧ Cond.selects yX11_count.cls yX11_count yX11_count ∈ TT ∧ Cond.initialized yX11_count.cls ∈ TT ∧ Cond.code yX11_count cX11_count 2 (some .int) ∈ TT ∧ NoMH yX11_count 1 := ⟨TT_mem 1697 (by decide +kernel) (by decide +kernel), TT_mem 1698 (by decide +kernel) (by decide +kernel), TT_mem 109 (by decide +kernel) (by decide +kernel), TT_mem 1699 (by decide +kernel) (by decide +kernel), (by decide +kernel), (by decide +kernel), (by decide +kernel)⟩
theorem ym_X11_check : Cond.instanceMethod yX11_check ∈ TT ∧ Cond.selects yX11_check.cls yX11_check yX11_check ∈ TT ∧ Cond.initialized yX11_check.cls ∈ TT ∧ Cond.code yX11_check cX11_check 4 (some .int) ∈ TT ∧ NoMH yX11_check 0 := ⟨TT_mem 1693 (by decide +kernel) (by decide +kernel), TT_mem 1694 (by decide +kernel) (by decide +kernel), TT_mem 109 (by decide +kernel) (by decide +kernel), TT_mem 1695 (by decide +kernel) (by decide +kernel), (by decide +kernel), (by decide +kernel), (by decide +kernel)⟩
theorem ym_X11_tell : Cond.instanceMethod yX11_tell ∈ TT ∧ Cond.selects yX11_tell.cls yX11_tell yX11_tell ∈ TT ∧ Cond.initialized yX11_tell.cls ∈ TT ∧ Cond.code yX11_tell cX11_tell 2 (some .int) ∈ TT ∧ NoMH yX11_tell 1 := ⟨TT_mem 1689 (by decide +kernel) (by decide +kernel), TT_mem 1690 (by decide +kernel) (by decide +kernel), TT_mem 109 (by decide +kernel) (by decide +kernel), TT_mem 1691 (by decide +kernel) (by decide +kernel), (by decide +kernel), (by decide +kernel), (by decide +kernel)⟩
theorem ym_X11_restore : Cond.instanceMethod yX11_restore ∈ TT ∧ Cond.selects yX11_restore.cls yX11_restore yX11_restore ∈ TT ∧ Cond.initialized yX11_restore.cls ∈ TT ∧ Cond.code yX11_restore cX11_restore 1 (some .int) ∈ TT ∧ NoMH yX11_restore 0 := ⟨TT_mem 1685 (by decide +kernel) (by decide +kernel), TT_mem 1686 (by decide +kernel) (by decide +kernel), TT_mem 109 (by decide +kernel) (by decide +kernel), TT_mem 1687 (by decide +kernel) (by decide +kernel), (by decide +kernel), (by decide +kernel), (by decide +kernel)⟩
theorem ym_X11_image : Cond.instanceMethod yX11_image ∈ TT ∧ Cond.selects yX11_image.cls yX11_image yX11_image ∈ TT ∧ Cond.initialized yX11_image.cls ∈ TT ∧ Cond.code yX11_image cX11_image 1 (some .int) ∈ TT ∧ NoMH yX11_image 0 := ⟨TT_mem 1681 (by decide +kernel) (by decide +kernel), TT_mem 1682 (by decide +kernel) (by decide +kernel), TT_mem 109 (by decide +kernel) (by decide +kernel), TT_mem 1683 (by decide +kernel) (by decide +kernel), (by decide +kernel), (by decide +kernel), (by decide +kernel)⟩
theorem ym_X11_judge : Cond.instanceMethod yX11_judge ∈ TT ∧ Cond.selects yX11_judge.cls yX11_judge yX11_judge ∈ TT ∧ Cond.initialized yX11_judge.cls ∈ TT ∧ Cond.code yX11_judge cX11_judge 3 (some .int) ∈ TT ∧ NoMH yX11_judge 1 := ⟨TT_mem 1677 (by decide +kernel) (by decide +kernel), TT_mem 1678 (by decide +kernel) (by decide +kernel), TT_mem 109 (by decide +kernel) (by decide +kernel), TT_mem 1679 (by decide +kernel) (by decide +kernel), (by decide +kernel), (by decide +kernel), (by decide +kernel)⟩
theorem ym_X11_lets : Cond.instanceMethod yX11_lets ∈ TT ∧ Cond.selects yX11_lets.cls yX11_lets yX11_lets ∈ TT ∧ Cond.initialized yX11_lets.cls ∈ TT ∧ Cond.code yX11_lets cX11_lets 4 (some .int) ∈ TT ∧ NoMH yX11_lets 1 := ⟨TT_mem 1673 (by decide +kernel) (by decide +kernel), TT_mem 1674 (by decide +kernel) (by decide +kernel), TT_mem 109 (by decide +kernel) (by decide +kernel), TT_mem 1675 (by decide +kernel) (by decide +kernel), (by decide +kernel), (by decide +kernel), (by decide +kernel)⟩
theorem ym_X11_move : Cond.instanceMethod yX11_move ∈ TT ∧ Cond.selects yX11_move.cls yX11_move yX11_move ∈ TT ∧ Cond.initialized yX11_move.cls ∈ TT ∧ Cond.code yX11_move cX11_move 7 (some .int) ∈ TT ∧ NoMH yX11_move 5 := ⟨TT_mem 1669 (by decide +kernel) (by decide +kernel), TT_mem 1670 (by decide +kernel) (by decide +kernel), TT_mem 109 (by decide +kernel) (by decide +kernel), TT_mem 1671 (by decide +kernel) (by decide +kernel), (by decide +kernel), (by decide +kernel), (by decide +kernel)⟩
theorem ym_X11_put : Cond.instanceMethod yX11_put ∈ TT ∧ Cond.selects yX11_put.cls yX11_put yX11_put ∈ TT ∧ Cond.initialized yX11_put.cls ∈ TT ∧ Cond.code yX11_put cX11_put 4 (some .int) ∈ TT ∧ NoMH yX11_put 3 := ⟨TT_mem 1662 (by decide +kernel) (by decide +kernel), TT_mem 1663 (by decide +kernel) (by decide +kernel), TT_mem 109 (by decide +kernel) (by decide +kernel), TT_mem 1664 (by decide +kernel) (by decide +kernel), (by decide +kernel), (by decide +kernel), (by decide +kernel)⟩
theorem ym_X11_sheet : Cond.instanceMethod yX11_sheet ∈ TT ∧ Cond.selects yX11_sheet.cls yX11_sheet yX11_sheet ∈ TT ∧ Cond.initialized yX11_sheet.cls ∈ TT ∧ Cond.code yX11_sheet cX11_sheet 5 (some .int) ∈ TT ∧ NoMH yX11_sheet 3 := ⟨TT_mem 1658 (by decide +kernel) (by decide +kernel), TT_mem 1659 (by decide +kernel) (by decide +kernel), TT_mem 109 (by decide +kernel) (by decide +kernel), TT_mem 1660 (by decide +kernel) (by decide +kernel), (by decide +kernel), (by decide +kernel), (by decide +kernel)⟩
theorem ym_X11_trace : Cond.instanceMethod yX11_trace ∈ TT ∧ Cond.selects yX11_trace.cls yX11_trace yX11_trace ∈ TT ∧ Cond.initialized yX11_trace.cls ∈ TT ∧ Cond.code yX11_trace cX11_trace 2 (some .int) ∈ TT ∧ NoMH yX11_trace 1 := ⟨TT_mem 1654 (by decide +kernel) (by decide +kernel), TT_mem 1655 (by decide +kernel) (by decide +kernel), TT_mem 109 (by decide +kernel) (by decide +kernel), TT_mem 1656 (by decide +kernel) (by decide +kernel), (by decide +kernel), (by decide +kernel), (by decide +kernel)⟩
theorem ym_X11_voice : Cond.instanceMethod yX11_voice ∈ TT ∧ Cond.selects yX11_voice.cls yX11_voice yX11_voice ∈ TT ∧ Cond.initialized yX11_voice.cls ∈ TT ∧ Cond.code yX11_voice cX11_voice 4 (some .int) ∈ TT ∧ NoMH yX11_voice 3 := ⟨TT_mem 1630 (by decide +kernel) (by decide +kernel), TT_mem 1631 (by decide +kernel) (by decide +kernel), TT_mem 109 (by decide +kernel) (by decide +kernel), TT_mem 1632 (by decide +kernel) (by decide +kernel), (by decide +kernel), (by decide +kernel), (by decide +kernel)⟩
theorem ym_X11_seed : Cond.instanceMethod yX11_seed ∈ TT ∧ Cond.selects yX11_seed.cls yX11_seed yX11_seed ∈ TT ∧ Cond.initialized yX11_seed.cls ∈ TT ∧ Cond.code yX11_seed cX11_seed 3 (some .int) ∈ TT ∧ NoMH yX11_seed 1 := ⟨TT_mem 1626 (by decide +kernel) (by decide +kernel), TT_mem 1627 (by decide +kernel) (by decide +kernel), TT_mem 109 (by decide +kernel) (by decide +kernel), TT_mem 1628 (by decide +kernel) (by decide +kernel), (by decide +kernel), (by decide +kernel), (by decide +kernel)⟩
theorem ym_X11_days : Cond.instanceMethod yX11_days ∈ TT ∧ Cond.selects yX11_days.cls yX11_days yX11_days ∈ TT ∧ Cond.initialized yX11_days.cls ∈ TT ∧ Cond.code yX11_days cX11_days 6 (some .int) ∈ TT ∧ NoMH yX11_days 1 := ⟨TT_mem 1617 (by decide +kernel) (by decide +kernel), TT_mem 1618 (by decide +kernel) (by decide +kernel), TT_mem 109 (by decide +kernel) (by decide +kernel), TT_mem 1619 (by decide +kernel) (by decide +kernel), (by decide +kernel), (by decide +kernel), (by decide +kernel)⟩
theorem ym_X11_longest : Cond.instanceMethod yX11_longest ∈ TT ∧ Cond.selects yX11_longest.cls yX11_longest yX11_longest ∈ TT ∧ Cond.initialized yX11_longest.cls ∈ TT ∧ Cond.code yX11_longest cX11_longest 7 (some .int) ∈ TT ∧ NoMH yX11_longest 1 := ⟨TT_mem 1613 (by decide +kernel) (by decide +kernel), TT_mem 1614 (by decide +kernel) (by decide +kernel), TT_mem 109 (by decide +kernel) (by decide +kernel), TT_mem 1615 (by decide +kernel) (by decide +kernel), (by decide +kernel), (by decide +kernel), (by decide +kernel)⟩
theorem ym_X11_tells : Cond.instanceMethod yX11_tells ∈ TT ∧ Cond.selects yX11_tells.cls yX11_tells yX11_tells ∈ TT ∧ Cond.initialized yX11_tells.cls ∈ TT ∧ Cond.code yX11_tells cX11_tells 6 (some .int) ∈ TT ∧ NoMH yX11_tells 3 := ⟨TT_mem 1609 (by decide +kernel) (by decide +kernel), TT_mem 1610 (by decide +kernel) (by decide +kernel), TT_mem 109 (by decide +kernel) (by decide +kernel), TT_mem 1611 (by decide +kernel) (by decide +kernel), (by decide +kernel), (by decide +kernel), (by decide +kernel)⟩
theorem ym_X11_fits : Cond.instanceMethod yX11_fits ∈ TT ∧ Cond.selects yX11_fits.cls yX11_fits yX11_fits ∈ TT ∧ Cond.initialized yX11_fits.cls ∈ TT ∧ Cond.code yX11_fits cX11_fits 3 (some .int) ∈ TT ∧ NoMH yX11_fits 2 := ⟨TT_mem 1589 (by decide +kernel) (by decide +kernel), TT_mem 1590 (by decide +kernel) (by decide +kernel), TT_mem 109 (by decide +kernel) (by decide +kernel), TT_mem 1591 (by decide +kernel) (by decide +kernel), (by decide +kernel), (by decide +kernel), (by decide +kernel)⟩
theorem ym_X11_odds : Cond.instanceMethod yX11_odds ∈ TT ∧ Cond.selects yX11_odds.cls yX11_odds yX11_odds ∈ TT ∧ Cond.initialized yX11_odds.cls ∈ TT ∧ Cond.code yX11_odds cX11_odds 8 (some .long) ∈ TT ∧ NoMH yX11_odds 4 := ⟨TT_mem 1566 (by decide +kernel) (by decide +kernel), TT_mem 1567 (by decide +kernel) (by decide +kernel), TT_mem 109 (by decide +kernel) (by decide +kernel), TT_mem 1568 (by decide +kernel) (by decide +kernel), (by decide +kernel), (by decide +kernel), (by decide +kernel)⟩
theorem ym_X11_had : Cond.instanceMethod yX11_had ∈ TT ∧ Cond.selects yX11_had.cls yX11_had yX11_had ∈ TT ∧ Cond.initialized yX11_had.cls ∈ TT ∧ Cond.code yX11_had cX11_had 4 (some .int) ∈ TT ∧ NoMH yX11_had 0 := ⟨TT_mem 1549 (by decide +kernel) (by decide +kernel), TT_mem 1550 (by decide +kernel) (by decide +kernel), TT_mem 109 (by decide +kernel) (by decide +kernel), TT_mem 1551 (by decide +kernel) (by decide +kernel), (by decide +kernel), (by decide +kernel), (by decide +kernel)⟩
theorem ym_X11_throne : Cond.instanceMethod yX11_throne ∈ TT ∧ Cond.selects yX11_throne.cls yX11_throne yX11_throne ∈ TT ∧ Cond.initialized yX11_throne.cls ∈ TT ∧ Cond.code yX11_throne cX11_throne 4 (some .int) ∈ TT ∧ NoMH yX11_throne 3 := ⟨TT_mem 1537 (by decide +kernel) (by decide +kernel), TT_mem 1538 (by decide +kernel) (by decide +kernel), TT_mem 109 (by decide +kernel) (by decide +kernel), TT_mem 1539 (by decide +kernel) (by decide +kernel), (by decide +kernel), (by decide +kernel), (by decide +kernel)⟩
theorem ym_X11_back : Cond.instanceMethod yX11_back ∈ TT ∧ Cond.selects yX11_back.cls yX11_back yX11_back ∈ TT ∧ Cond.initialized yX11_back.cls ∈ TT ∧ Cond.code yX11_back cX11_back 3 (some .int) ∈ TT ∧ NoMH yX11_back 1 := ⟨TT_mem 1521 (by decide +kernel) (by decide +kernel), TT_mem 1522 (by decide +kernel) (by decide +kernel), TT_mem 109 (by decide +kernel) (by decide +kernel), TT_mem 1523 (by decide +kernel) (by decide +kernel), (by decide +kernel), (by decide +kernel), (by decide +kernel)⟩
theorem ym_X11_round : Cond.instanceMethod yX11_round ∈ TT ∧ Cond.selects yX11_round.cls yX11_round yX11_round ∈ TT ∧ Cond.initialized yX11_round.cls ∈ TT ∧ Cond.code yX11_round cX11_round 5 (some .int) ∈ TT ∧ NoMH yX11_round 1 := ⟨TT_mem 1513 (by decide +kernel) (by decide +kernel), TT_mem 1514 (by decide +kernel) (by decide +kernel), TT_mem 109 (by decide +kernel) (by decide +kernel), TT_mem 1515 (by decide +kernel) (by decide +kernel), (by decide +kernel), (by decide +kernel), (by decide +kernel)⟩
theorem ym_X11_text : Cond.instanceMethod yX11_text ∈ TT ∧ Cond.selects yX11_text.cls yX11_text yX11_text ∈ TT ∧ Cond.initialized yX11_text.cls ∈ TT ∧ Cond.code yX11_text cX11_text 5 (some .int) ∈ TT ∧ NoMH yX11_text 1 := ⟨TT_mem 1509 (by decide +kernel) (by decide +kernel), TT_mem 1510 (by decide +kernel) (by decide +kernel), TT_mem 109 (by decide +kernel) (by decide +kernel), TT_mem 1511 (by decide +kernel) (by decide +kernel), (by decide +kernel), (by decide +kernel), (by decide +kernel)⟩
theorem ym_X11_feed : Cond.instanceMethod yX11_feed ∈ TT ∧ Cond.selects yX11_feed.cls yX11_feed yX11_feed ∈ TT ∧ Cond.initialized yX11_feed.cls ∈ TT ∧ Cond.code yX11_feed cX11_feed 5 (some .int) ∈ TT ∧ NoMH yX11_feed 2 := ⟨TT_mem 1503 (by decide +kernel) (by decide +kernel), TT_mem 1504 (by decide +kernel) (by decide +kernel), TT_mem 109 (by decide +kernel) (by decide +kernel), TT_mem 1505 (by decide +kernel) (by decide +kernel), (by decide +kernel), (by decide +kernel), (by decide +kernel)⟩
theorem ym_X11_law : Cond.instanceMethod yX11_law ∈ TT ∧ Cond.selects yX11_law.cls yX11_law yX11_law ∈ TT ∧ Cond.initialized yX11_law.cls ∈ TT ∧ Cond.code yX11_law cX11_law 5 (some .int) ∈ TT ∧ NoMH yX11_law 4 := ⟨TT_mem 1499 (by decide +kernel) (by decide +kernel), TT_mem 1500 (by decide +kernel) (by decide +kernel), TT_mem 109 (by decide +kernel) (by decide +kernel), TT_mem 1501 (by decide +kernel) (by decide +kernel), (by decide +kernel), (by decide +kernel), (by decide +kernel)⟩
theorem ym_X11_undo : Cond.instanceMethod yX11_undo ∈ TT ∧ Cond.selects yX11_undo.cls yX11_undo yX11_undo ∈ TT ∧ Cond.initialized yX11_undo.cls ∈ TT ∧ Cond.code yX11_undo cX11_undo 4 (some .int) ∈ TT ∧ NoMH yX11_undo 1 := ⟨TT_mem 1491 (by decide +kernel) (by decide +kernel), TT_mem 1492 (by decide +kernel) (by decide +kernel), TT_mem 109 (by decide +kernel) (by decide +kernel), TT_mem 1493 (by decide +kernel) (by decide +kernel), (by decide +kernel), (by decide +kernel), (by decide +kernel)⟩
theorem ym_X11_way : Cond.instanceMethod yX11_way ∈ TT ∧ Cond.selects yX11_way.cls yX11_way yX11_way ∈ TT ∧ Cond.initialized yX11_way.cls ∈ TT ∧ Cond.code yX11_way cX11_way 4 (some .int) ∈ TT ∧ NoMH yX11_way 2 := ⟨TT_mem 1486 (by decide +kernel) (by decide +kernel), TT_mem 1487 (by decide +kernel) (by decide +kernel), TT_mem 109 (by decide +kernel) (by decide +kernel), TT_mem 1488 (by decide +kernel) (by decide +kernel), (by decide +kernel), (by decide +kernel), (by decide +kernel)⟩
theorem ym_X11_out : Cond.instanceMethod yX11_out ∈ TT ∧ Cond.selects yX11_out.cls yX11_out yX11_out ∈ TT ∧ Cond.initialized yX11_out.cls ∈ TT ∧ Cond.code yX11_out cX11_out 6 (some .int) ∈ TT ∧ NoMH yX11_out 2 := ⟨TT_mem 1475 (by decide +kernel) (by decide +kernel), TT_mem 1476 (by decide +kernel) (by decide +kernel), TT_mem 109 (by decide +kernel) (by decide +kernel), TT_mem 1477 (by decide +kernel) (by decide +kernel), (by decide +kernel), (by decide +kernel), (by decide +kernel)⟩
theorem ym_X11_let : Cond.instanceMethod yX11_let ∈ TT ∧ Cond.selects yX11_let.cls yX11_let yX11_let ∈ TT ∧ Cond.initialized yX11_let.cls ∈ TT ∧ Cond.code yX11_let cX11_let 2 (some .int) ∈ TT ∧ NoMH yX11_let 1 := ⟨TT_mem 1432 (by decide +kernel) (by decide +kernel), TT_mem 1433 (by decide +kernel) (by decide +kernel), TT_mem 109 (by decide +kernel) (by decide +kernel), TT_mem 1434 (by decide +kernel) (by decide +kernel), (by decide +kernel), (by decide +kernel), (by decide +kernel)⟩
theorem ym_X11_slants : Cond.instanceMethod yX11_slants ∈ TT ∧ Cond.selects yX11_slants.cls yX11_slants yX11_slants ∈ TT ∧ Cond.initialized yX11_slants.cls ∈ TT ∧ Cond.code yX11_slants cX11_slants 1 (some .int) ∈ TT ∧ NoMH yX11_slants 0 := ⟨TT_mem 1424 (by decide +kernel) (by decide +kernel), TT_mem 1425 (by decide +kernel) (by decide +kernel), TT_mem 109 (by decide +kernel) (by decide +kernel), TT_mem 1426 (by decide +kernel) (by decide +kernel), (by decide +kernel), (by decide +kernel), (by decide +kernel)⟩
theorem ym_X11_hand : Cond.instanceMethod yX11_hand ∈ TT ∧ Cond.selects yX11_hand.cls yX11_hand yX11_hand ∈ TT ∧ Cond.initialized yX11_hand.cls ∈ TT ∧ Cond.code yX11_hand cX11_hand 2 (some .int) ∈ TT ∧ NoMH yX11_hand 1 := ⟨TT_mem 1405 (by decide +kernel) (by decide +kernel), TT_mem 1406 (by decide +kernel) (by decide +kernel), TT_mem 109 (by decide +kernel) (by decide +kernel), TT_mem 1407 (by decide +kernel) (by decide +kernel), (by decide +kernel), (by decide +kernel), (by decide +kernel)⟩
theorem ym_X11_as : Cond.instanceMethod yX11_as ∈ TT ∧ Cond.selects yX11_as.cls yX11_as yX11_as ∈ TT ∧ Cond.initialized yX11_as.cls ∈ TT ∧ Cond.code yX11_as cX11_as 4 (some .int) ∈ TT ∧ NoMH yX11_as 2 := ⟨TT_mem 1397 (by decide +kernel) (by decide +kernel), TT_mem 1398 (by decide +kernel) (by decide +kernel), TT_mem 109 (by decide +kernel) (by decide +kernel), TT_mem 1399 (by decide +kernel) (by decide +kernel), (by decide +kernel), (by decide +kernel), (by decide +kernel)⟩
theorem ym_X11_ofSquare : Cond.instanceMethod yX11_ofSquare ∈ TT ∧ Cond.selects yX11_ofSquare.cls yX11_ofSquare yX11_ofSquare ∈ TT ∧ Cond.initialized yX11_ofSquare.cls ∈ TT ∧ Cond.code yX11_ofSquare cX11_ofSquare 3 (some .int) ∈ TT ∧ NoMH yX11_ofSquare 2 := ⟨TT_mem 1323 (by decide +kernel) (by decide +kernel), TT_mem 1324 (by decide +kernel) (by decide +kernel), TT_mem 109 (by decide +kernel) (by decide +kernel), TT_mem 1325 (by decide +kernel) (by decide +kernel), (by decide +kernel), (by decide +kernel), (by decide +kernel)⟩
theorem ym_X11_square : Cond.instanceMethod yX11_square ∈ TT ∧ Cond.selects yX11_square.cls yX11_square yX11_square ∈ TT ∧ Cond.initialized yX11_square.cls ∈ TT ∧ Cond.code yX11_square cX11_square 5 (some .int) ∈ TT ∧ NoMH yX11_square 3 := ⟨TT_mem 1303 (by decide +kernel) (by decide +kernel), TT_mem 1304 (by decide +kernel) (by decide +kernel), TT_mem 109 (by decide +kernel) (by decide +kernel), TT_mem 1305 (by decide +kernel) (by decide +kernel), (by decide +kernel), (by decide +kernel), (by decide +kernel)⟩
theorem ym_X11_hall : Cond.instanceMethod yX11_hall ∈ TT ∧ Cond.selects yX11_hall.cls yX11_hall yX11_hall ∈ TT ∧ Cond.initialized yX11_hall.cls ∈ TT ∧ Cond.code yX11_hall cX11_hall 4 (some .int) ∈ TT ∧ NoMH yX11_hall 2 := ⟨TT_mem 1286 (by decide +kernel) (by decide +kernel), TT_mem 1287 (by decide +kernel) (by decide +kernel), TT_mem 109 (by decide +kernel) (by decide +kernel), TT_mem 1288 (by decide +kernel) (by decide +kernel), (by decide +kernel), (by decide +kernel), (by decide +kernel)⟩
theorem ym_X10_told : Cond.instanceMethod yX10_told ∈ TT ∧ Cond.selects yX10_told.cls yX10_told yX10_told ∈ TT ∧ Cond.initialized yX10_told.cls ∈ TT ∧ Cond.code yX10_told cX10_told 2 (some .int) ∈ TT ∧ NoMH yX10_told 1 := ⟨TT_mem 1143 (by decide +kernel) (by decide +kernel), TT_mem 1144 (by decide +kernel) (by decide +kernel), TT_mem 98 (by decide +kernel) (by decide +kernel), TT_mem 1145 (by decide +kernel) (by decide +kernel), (by decide +kernel), (by decide +kernel), (by decide +kernel)⟩
theorem ym_X10_count : Cond.instanceMethod yX10_count ∈ TT ∧ Cond.selects yX10_count.cls yX10_count yX10_count ∈ TT ∧ Cond.initialized yX10_count.cls ∈ TT ∧ Cond.code yX10_count cX10_count 2 (some .int) ∈ TT ∧ NoMH yX10_count 1 := ⟨TT_mem 1130 (by decide +kernel) (by decide +kernel), TT_mem 1131 (by decide +kernel) (by decide +kernel), TT_mem 98 (by decide +kernel) (by decide +kernel), TT_mem 1132 (by decide +kernel) (by decide +kernel), (by decide +kernel), (by decide +kernel), (by decide +kernel)⟩
theorem ym_X10_check : Cond.instanceMethod yX10_check ∈ TT ∧ Cond.selects yX10_check.cls yX10_check yX10_check ∈ TT ∧ Cond.initialized yX10_check.cls ∈ TT ∧ Cond.code yX10_check cX10_check 3 (some .int) ∈ TT ∧ NoMH yX10_check 0 := ⟨TT_mem 1125 (by decide +kernel) (by decide +kernel), TT_mem 1126 (by decide +kernel) (by decide +kernel), TT_mem 98 (by decide +kernel) (by decide +kernel), TT_mem 1127 (by decide +kernel) (by decide +kernel), (by decide +kernel), (by decide +kernel), (by decide +kernel)⟩
theorem ym_X10_tell : Cond.instanceMethod yX10_tell ∈ TT ∧ Cond.selects yX10_tell.cls yX10_tell yX10_tell ∈ TT ∧ Cond.initialized yX10_tell.cls ∈ TT ∧ Cond.code yX10_tell cX10_tell 2 (some .int) ∈ TT ∧ NoMH yX10_tell 1 := ⟨TT_mem 1117 (by decide +kernel) (by decide +kernel), TT_mem 1118 (by decide +kernel) (by decide +kernel), TT_mem 98 (by decide +kernel) (by decide +kernel), TT_mem 1119 (by decide +kernel) (by decide +kernel), (by decide +kernel), (by decide +kernel), (by decide +kernel)⟩
theorem ym_X10_restore : Cond.instanceMethod yX10_restore ∈ TT ∧ Cond.selects yX10_restore.cls yX10_restore yX10_restore ∈ TT ∧ Cond.initialized yX10_restore.cls ∈ TT ∧ Cond.code yX10_restore cX10_restore 1 (some .int) ∈ TT ∧ NoMH yX10_restore 0 := ⟨TT_mem 1113 (by decide +kernel) (by decide +kernel), TT_mem 1114 (by decide +kernel) (by decide +kernel), TT_mem 98 (by decide +kernel) (by decide +kernel), TT_mem 1115 (by decide +kernel) (by decide +kernel), (by decide +kernel), (by decide +kernel), (by decide +kernel)⟩
theorem ym_X10_image : Cond.instanceMethod yX10_image ∈ TT ∧ Cond.selects yX10_image.cls yX10_image yX10_image ∈ TT ∧ Cond.initialized yX10_image.cls ∈ TT ∧ Cond.code yX10_image cX10_image 1 (some .int) ∈ TT ∧ NoMH yX10_image 0 := ⟨TT_mem 1098 (by decide +kernel) (by decide +kernel), TT_mem 1099 (by decide +kernel) (by decide +kernel), TT_mem 98 (by decide +kernel) (by decide +kernel), TT_mem 1100 (by decide +kernel) (by decide +kernel), (by decide +kernel), (by decide +kernel), (by decide +kernel)⟩
theorem ym_X10_judge : Cond.instanceMethod yX10_judge ∈ TT ∧ Cond.selects yX10_judge.cls yX10_judge yX10_judge ∈ TT ∧ Cond.initialized yX10_judge.cls ∈ TT ∧ Cond.code yX10_judge cX10_judge 6 (some .int) ∈ TT ∧ NoMH yX10_judge 1 := ⟨TT_mem 1093 (by decide +kernel) (by decide +kernel), TT_mem 1094 (by decide +kernel) (by decide +kernel), TT_mem 98 (by decide +kernel) (by decide +kernel), TT_mem 1095 (by decide +kernel) (by decide +kernel), (by decide +kernel), (by decide +kernel), (by decide +kernel)⟩
theorem ym_X10_lets : Cond.instanceMethod yX10_lets ∈ TT ∧ Cond.selects yX10_lets.cls yX10_lets yX10_lets ∈ TT ∧ Cond.initialized yX10_lets.cls ∈ TT ∧ Cond.code yX10_lets cX10_lets 4 (some .int) ∈ TT ∧ NoMH yX10_lets 1 := ⟨TT_mem 1089 (by decide +kernel) (by decide +kernel), TT_mem 1090 (by decide +kernel) (by decide +kernel), TT_mem 98 (by decide +kernel) (by decide +kernel), TT_mem 1091 (by decide +kernel) (by decide +kernel), (by decide +kernel), (by decide +kernel), (by decide +kernel)⟩
theorem ym_X10_move : Cond.instanceMethod yX10_move ∈ TT ∧ Cond.selects yX10_move.cls yX10_move yX10_move ∈ TT ∧ Cond.initialized yX10_move.cls ∈ TT ∧ Cond.code yX10_move cX10_move 8 (some .int) ∈ TT ∧ NoMH yX10_move 5 := ⟨TT_mem 1079 (by decide +kernel) (by decide +kernel), TT_mem 1080 (by decide +kernel) (by decide +kernel), TT_mem 98 (by decide +kernel) (by decide +kernel), TT_mem 1081 (by decide +kernel) (by decide +kernel), (by decide +kernel), (by decide +kernel), (by decide +kernel)⟩
theorem ym_X10_put : Cond.instanceMethod yX10_put ∈ TT ∧ Cond.selects yX10_put.cls yX10_put yX10_put ∈ TT ∧ Cond.initialized yX10_put.cls ∈ TT ∧ Cond.code yX10_put cX10_put 5 (some .int) ∈ TT ∧ NoMH yX10_put 3 := ⟨TT_mem 1070 (by decide +kernel) (by decide +kernel), TT_mem 1071 (by decide +kernel) (by decide +kernel), TT_mem 98 (by decide +kernel) (by decide +kernel), TT_mem 1072 (by decide +kernel) (by decide +kernel), (by decide +kernel), (by decide +kernel), (by decide +kernel)⟩
theorem ym_X10_sheet : Cond.instanceMethod yX10_sheet ∈ TT ∧ Cond.selects yX10_sheet.cls yX10_sheet yX10_sheet ∈ TT ∧ Cond.initialized yX10_sheet.cls ∈ TT ∧ Cond.code yX10_sheet cX10_sheet 4 (some .int) ∈ TT ∧ NoMH yX10_sheet 3 := ⟨TT_mem 1054 (by decide +kernel) (by decide +kernel), TT_mem 1055 (by decide +kernel) (by decide +kernel), TT_mem 98 (by decide +kernel) (by decide +kernel), TT_mem 1056 (by decide +kernel) (by decide +kernel), (by decide +kernel), (by decide +kernel), (by decide +kernel)⟩
theorem ym_X10_trace : Cond.instanceMethod yX10_trace ∈ TT ∧ Cond.selects yX10_trace.cls yX10_trace yX10_trace ∈ TT ∧ Cond.initialized yX10_trace.cls ∈ TT ∧ Cond.code yX10_trace cX10_trace 2 (some .int) ∈ TT ∧ NoMH yX10_trace 1 := ⟨TT_mem 1050 (by decide +kernel) (by decide +kernel), TT_mem 1051 (by decide +kernel) (by decide +kernel), TT_mem 98 (by decide +kernel) (by decide +kernel), TT_mem 1052 (by decide +kernel) (by decide +kernel), (by decide +kernel), (by decide +kernel), (by decide +kernel)⟩
theorem ym_X10_voice : Cond.instanceMethod yX10_voice ∈ TT ∧ Cond.selects yX10_voice.cls yX10_voice yX10_voice ∈ TT ∧ Cond.initialized yX10_voice.cls ∈ TT ∧ Cond.code yX10_voice cX10_voice 4 (some .int) ∈ TT ∧ NoMH yX10_voice 3 := ⟨TT_mem 1019 (by decide +kernel) (by decide +kernel), TT_mem 1020 (by decide +kernel) (by decide +kernel), TT_mem 98 (by decide +kernel) (by decide +kernel), TT_mem 1021 (by decide +kernel) (by decide +kernel), (by decide +kernel), (by decide +kernel), (by decide +kernel)⟩
theorem ym_X10_seed : Cond.instanceMethod yX10_seed ∈ TT ∧ Cond.selects yX10_seed.cls yX10_seed yX10_seed ∈ TT ∧ Cond.initialized yX10_seed.cls ∈ TT ∧ Cond.code yX10_seed cX10_seed 3 (some .int) ∈ TT ∧ NoMH yX10_seed 1 := ⟨TT_mem 1015 (by decide +kernel) (by decide +kernel), TT_mem 1016 (by decide +kernel) (by decide +kernel), TT_mem 98 (by decide +kernel) (by decide +kernel), TT_mem 1017 (by decide +kernel) (by decide +kernel), (by decide +kernel), (by decide +kernel), (by decide +kernel)⟩
theorem ym_X10_days : Cond.instanceMethod yX10_days ∈ TT ∧ Cond.selects yX10_days.cls yX10_days yX10_days ∈ TT ∧ Cond.initialized yX10_days.cls ∈ TT ∧ Cond.code yX10_days cX10_days 3 (some .int) ∈ TT ∧ NoMH yX10_days 1 := ⟨TT_mem 998 (by decide +kernel) (by decide +kernel), TT_mem 999 (by decide +kernel) (by decide +kernel), TT_mem 98 (by decide +kernel) (by decide +kernel), TT_mem 1000 (by decide +kernel) (by decide +kernel), (by decide +kernel), (by decide +kernel), (by decide +kernel)⟩
theorem ym_X10_longest : Cond.instanceMethod yX10_longest ∈ TT ∧ Cond.selects yX10_longest.cls yX10_longest yX10_longest ∈ TT ∧ Cond.initialized yX10_longest.cls ∈ TT ∧ Cond.code yX10_longest cX10_longest 2 (some .int) ∈ TT ∧ NoMH yX10_longest 1 := ⟨TT_mem 989 (by decide +kernel) (by decide +kernel), TT_mem 990 (by decide +kernel) (by decide +kernel), TT_mem 98 (by decide +kernel) (by decide +kernel), TT_mem 991 (by decide +kernel) (by decide +kernel), (by decide +kernel), (by decide +kernel), (by decide +kernel)⟩
theorem ym_X10_tells : Cond.instanceMethod yX10_tells ∈ TT ∧ Cond.selects yX10_tells.cls yX10_tells yX10_tells ∈ TT ∧ Cond.initialized yX10_tells.cls ∈ TT ∧ Cond.code yX10_tells cX10_tells 5 (some .int) ∈ TT ∧ NoMH yX10_tells 3 := ⟨TT_mem 973 (by decide +kernel) (by decide +kernel), TT_mem 974 (by decide +kernel) (by decide +kernel), TT_mem 98 (by decide +kernel) (by decide +kernel), TT_mem 975 (by decide +kernel) (by decide +kernel), (by decide +kernel), (by decide +kernel), (by decide +kernel)⟩
theorem ym_X10_fits : Cond.instanceMethod yX10_fits ∈ TT ∧ Cond.selects yX10_fits.cls yX10_fits yX10_fits ∈ TT ∧ Cond.initialized yX10_fits.cls ∈ TT ∧ Cond.code yX10_fits cX10_fits 4 (some .int) ∈ TT ∧ NoMH yX10_fits 2 := ⟨TT_mem 949 (by decide +kernel) (by decide +kernel), TT_mem 950 (by decide +kernel) (by decide +kernel), TT_mem 98 (by decide +kernel) (by decide +kernel), TT_mem 951 (by decide +kernel) (by decide +kernel), (by decide +kernel), (by decide +kernel), (by decide +kernel)⟩
theorem ym_X10_odds : Cond.instanceMethod yX10_odds ∈ TT ∧ Cond.selects yX10_odds.cls yX10_odds yX10_odds ∈ TT ∧ Cond.initialized yX10_odds.cls ∈ TT ∧ Cond.code yX10_odds cX10_odds 7 (some .long) ∈ TT ∧ NoMH yX10_odds 4 := ⟨TT_mem 920 (by decide +kernel) (by decide +kernel), TT_mem 921 (by decide +kernel) (by decide +kernel), TT_mem 98 (by decide +kernel) (by decide +kernel), TT_mem 922 (by decide +kernel) (by decide +kernel), (by decide +kernel), (by decide +kernel), (by decide +kernel)⟩
theorem ym_X10_had : Cond.instanceMethod yX10_had ∈ TT ∧ Cond.selects yX10_had.cls yX10_had yX10_had ∈ TT ∧ Cond.initialized yX10_had.cls ∈ TT ∧ Cond.code yX10_had cX10_had 2 (some .int) ∈ TT ∧ NoMH yX10_had 0 := ⟨TT_mem 908 (by decide +kernel) (by decide +kernel), TT_mem 909 (by decide +kernel) (by decide +kernel), TT_mem 98 (by decide +kernel) (by decide +kernel), TT_mem 910 (by decide +kernel) (by decide +kernel), (by decide +kernel), (by decide +kernel), (by decide +kernel)⟩
theorem ym_X10_throne : Cond.instanceMethod yX10_throne ∈ TT ∧ Cond.selects yX10_throne.cls yX10_throne yX10_throne ∈ TT ∧ Cond.initialized yX10_throne.cls ∈ TT ∧ Cond.code yX10_throne cX10_throne 4 (some .int) ∈ TT ∧ NoMH yX10_throne 3 := ⟨TT_mem 878 (by decide +kernel) (by decide +kernel), TT_mem 879 (by decide +kernel) (by decide +kernel), TT_mem 98 (by decide +kernel) (by decide +kernel), TT_mem 880 (by decide +kernel) (by decide +kernel), (by decide +kernel), (by decide +kernel), (by decide +kernel)⟩
theorem ym_X10_back : Cond.instanceMethod yX10_back ∈ TT ∧ Cond.selects yX10_back.cls yX10_back yX10_back ∈ TT ∧ Cond.initialized yX10_back.cls ∈ TT ∧ Cond.code yX10_back cX10_back 3 (some .int) ∈ TT ∧ NoMH yX10_back 1 := ⟨TT_mem 856 (by decide +kernel) (by decide +kernel), TT_mem 857 (by decide +kernel) (by decide +kernel), TT_mem 98 (by decide +kernel) (by decide +kernel), TT_mem 858 (by decide +kernel) (by decide +kernel), (by decide +kernel), (by decide +kernel), (by decide +kernel)⟩
theorem ym_X10_round : Cond.instanceMethod yX10_round ∈ TT ∧ Cond.selects yX10_round.cls yX10_round yX10_round ∈ TT ∧ Cond.initialized yX10_round.cls ∈ TT ∧ Cond.code yX10_round cX10_round 3 (some .int) ∈ TT ∧ NoMH yX10_round 1 := ⟨TT_mem 842 (by decide +kernel) (by decide +kernel), TT_mem 843 (by decide +kernel) (by decide +kernel), TT_mem 98 (by decide +kernel) (by decide +kernel), TT_mem 844 (by decide +kernel) (by decide +kernel), (by decide +kernel), (by decide +kernel), (by decide +kernel)⟩
theorem ym_X10_law : Cond.instanceMethod yX10_law ∈ TT ∧ Cond.selects yX10_law.cls yX10_law yX10_law ∈ TT ∧ Cond.initialized yX10_law.cls ∈ TT ∧ Cond.code yX10_law cX10_law 5 (some .int) ∈ TT ∧ NoMH yX10_law 4 := ⟨TT_mem 837 (by decide +kernel) (by decide +kernel), TT_mem 838 (by decide +kernel) (by decide +kernel), TT_mem 98 (by decide +kernel) (by decide +kernel), TT_mem 839 (by decide +kernel) (by decide +kernel), (by decide +kernel), (by decide +kernel), (by decide +kernel)⟩
theorem ym_X10_text : Cond.instanceMethod yX10_text ∈ TT ∧ Cond.selects yX10_text.cls yX10_text yX10_text ∈ TT ∧ Cond.initialized yX10_text.cls ∈ TT ∧ Cond.code yX10_text cX10_text 3 (some .int) ∈ TT ∧ NoMH yX10_text 1 := ⟨TT_mem 775 (by decide +kernel) (by decide +kernel), TT_mem 776 (by decide +kernel) (by decide +kernel), TT_mem 98 (by decide +kernel) (by decide +kernel), TT_mem 777 (by decide +kernel) (by decide +kernel), (by decide +kernel), (by decide +kernel), (by decide +kernel)⟩
theorem ym_X10_feed : Cond.instanceMethod yX10_feed ∈ TT ∧ Cond.selects yX10_feed.cls yX10_feed yX10_feed ∈ TT ∧ Cond.initialized yX10_feed.cls ∈ TT ∧ Cond.code yX10_feed cX10_feed 4 (some .int) ∈ TT ∧ NoMH yX10_feed 2 := ⟨TT_mem 766 (by decide +kernel) (by decide +kernel), TT_mem 767 (by decide +kernel) (by decide +kernel), TT_mem 98 (by decide +kernel) (by decide +kernel), TT_mem 768 (by decide +kernel) (by decide +kernel), (by decide +kernel), (by decide +kernel), (by decide +kernel)⟩
theorem ym_X10_undo : Cond.instanceMethod yX10_undo ∈ TT ∧ Cond.selects yX10_undo.cls yX10_undo yX10_undo ∈ TT ∧ Cond.initialized yX10_undo.cls ∈ TT ∧ Cond.code yX10_undo cX10_undo 3 (some .int) ∈ TT ∧ NoMH yX10_undo 1 := ⟨TT_mem 749 (by decide +kernel) (by decide +kernel), TT_mem 750 (by decide +kernel) (by decide +kernel), TT_mem 98 (by decide +kernel) (by decide +kernel), TT_mem 751 (by decide +kernel) (by decide +kernel), (by decide +kernel), (by decide +kernel), (by decide +kernel)⟩
theorem ym_X10_way : Cond.instanceMethod yX10_way ∈ TT ∧ Cond.selects yX10_way.cls yX10_way yX10_way ∈ TT ∧ Cond.initialized yX10_way.cls ∈ TT ∧ Cond.code yX10_way cX10_way 4 (some .int) ∈ TT ∧ NoMH yX10_way 2 := ⟨TT_mem 740 (by decide +kernel) (by decide +kernel), TT_mem 741 (by decide +kernel) (by decide +kernel), TT_mem 98 (by decide +kernel) (by decide +kernel), TT_mem 742 (by decide +kernel) (by decide +kernel), (by decide +kernel), (by decide +kernel), (by decide +kernel)⟩
theorem ym_X10_out : Cond.instanceMethod yX10_out ∈ TT ∧ Cond.selects yX10_out.cls yX10_out yX10_out ∈ TT ∧ Cond.initialized yX10_out.cls ∈ TT ∧ Cond.code yX10_out cX10_out 4 (some .int) ∈ TT ∧ NoMH yX10_out 2 := ⟨TT_mem 714 (by decide +kernel) (by decide +kernel), TT_mem 715 (by decide +kernel) (by decide +kernel), TT_mem 98 (by decide +kernel) (by decide +kernel), TT_mem 716 (by decide +kernel) (by decide +kernel), (by decide +kernel), (by decide +kernel), (by decide +kernel)⟩
theorem ym_X10_let : Cond.instanceMethod yX10_let ∈ TT ∧ Cond.selects yX10_let.cls yX10_let yX10_let ∈ TT ∧ Cond.initialized yX10_let.cls ∈ TT ∧ Cond.code yX10_let cX10_let 2 (some .int) ∈ TT ∧ NoMH yX10_let 1 := ⟨TT_mem 655 (by decide +kernel) (by decide +kernel), TT_mem 656 (by decide +kernel) (by decide +kernel), TT_mem 98 (by decide +kernel) (by decide +kernel), TT_mem 657 (by decide +kernel) (by decide +kernel), (by decide +kernel), (by decide +kernel), (by decide +kernel)⟩
theorem ym_X10_slants : Cond.instanceMethod yX10_slants ∈ TT ∧ Cond.selects yX10_slants.cls yX10_slants yX10_slants ∈ TT ∧ Cond.initialized yX10_slants.cls ∈ TT ∧ Cond.code yX10_slants cX10_slants 1 (some .int) ∈ TT ∧ NoMH yX10_slants 0 := ⟨TT_mem 651 (by decide +kernel) (by decide +kernel), TT_mem 652 (by decide +kernel) (by decide +kernel), TT_mem 98 (by decide +kernel) (by decide +kernel), TT_mem 653 (by decide +kernel) (by decide +kernel), (by decide +kernel), (by decide +kernel), (by decide +kernel)⟩
theorem ym_X10_hand : Cond.instanceMethod yX10_hand ∈ TT ∧ Cond.selects yX10_hand.cls yX10_hand yX10_hand ∈ TT ∧ Cond.initialized yX10_hand.cls ∈ TT ∧ Cond.code yX10_hand cX10_hand 2 (some .int) ∈ TT ∧ NoMH yX10_hand 1 := ⟨TT_mem 630 (by decide +kernel) (by decide +kernel), TT_mem 631 (by decide +kernel) (by decide +kernel), TT_mem 98 (by decide +kernel) (by decide +kernel), TT_mem 632 (by decide +kernel) (by decide +kernel), (by decide +kernel), (by decide +kernel), (by decide +kernel)⟩
theorem ym_X10_as : Cond.instanceMethod yX10_as ∈ TT ∧ Cond.selects yX10_as.cls yX10_as yX10_as ∈ TT ∧ Cond.initialized yX10_as.cls ∈ TT ∧ Cond.code yX10_as cX10_as 4 (some .int) ∈ TT ∧ NoMH yX10_as 2 := ⟨TT_mem 618 (by decide +kernel) (by decide +kernel), TT_mem 619 (by decide +kernel) (by decide +kernel), TT_mem 98 (by decide +kernel) (by decide +kernel), TT_mem 620 (by decide +kernel) (by decide +kernel), (by decide +kernel), (by decide +kernel), (by decide +kernel)⟩
theorem ym_X10_ofSquare : Cond.instanceMethod yX10_ofSquare ∈ TT ∧ Cond.selects yX10_ofSquare.cls yX10_ofSquare yX10_ofSquare ∈ TT ∧ Cond.initialized yX10_ofSquare.cls ∈ TT ∧ Cond.code yX10_ofSquare cX10_ofSquare 5 (some .int) ∈ TT ∧ NoMH yX10_ofSquare 2 := ⟨TT_mem 562 (by decide +kernel) (by decide +kernel), TT_mem 563 (by decide +kernel) (by decide +kernel), TT_mem 98 (by decide +kernel) (by decide +kernel), TT_mem 564 (by decide +kernel) (by decide +kernel), (by decide +kernel), (by decide +kernel), (by decide +kernel)⟩
theorem ym_X10_square : Cond.instanceMethod yX10_square ∈ TT ∧ Cond.selects yX10_square.cls yX10_square yX10_square ∈ TT ∧ Cond.initialized yX10_square.cls ∈ TT ∧ Cond.code yX10_square cX10_square 6 (some .int) ∈ TT ∧ NoMH yX10_square 3 := ⟨TT_mem 539 (by decide +kernel) (by decide +kernel), TT_mem 540 (by decide +kernel) (by decide +kernel), TT_mem 98 (by decide +kernel) (by decide +kernel), TT_mem 541 (by decide +kernel) (by decide +kernel), (by decide +kernel), (by decide +kernel), (by decide +kernel)⟩
theorem ym_X10_hall : Cond.instanceMethod yX10_hall ∈ TT ∧ Cond.selects yX10_hall.cls yX10_hall yX10_hall ∈ TT ∧ Cond.initialized yX10_hall.cls ∈ TT ∧ Cond.code yX10_hall cX10_hall 3 (some .int) ∈ TT ∧ NoMH yX10_hall 2 := ⟨TT_mem 516 (by decide +kernel) (by decide +kernel), TT_mem 517 (by decide +kernel) (by decide +kernel), TT_mem 98 (by decide +kernel) (by decide +kernel), TT_mem 518 (by decide +kernel) (by decide +kernel), (by decide +kernel), (by decide +kernel), (by decide +kernel)⟩
theorem cv_L_101 : CV RL 101 yX11_tells cX11_tells 6 (some .int) 3 := ⟨TT_mem 1608 (by decide +kernel) (by decide +kernel), ym_X11_tells⟩
theorem cv_L_102 : CV RL 102 yX10_longest cX10_longest 2 (some .int) 1 := ⟨TT_mem 988 (by decide +kernel) (by decide +kernel), ym_X10_longest⟩
theorem cv_L_105 : CV RL 105 yX11_longest cX11_longest 7 (some .int) 1 := ⟨TT_mem 1612 (by decide +kernel) (by decide +kernel), ym_X11_longest⟩
theorem cv_L_106 : CV RL 106 yX10_days cX10_days 3 (some .int) 1 := ⟨TT_mem 997 (by decide +kernel) (by decide +kernel), ym_X10_days⟩
theorem cv_L_109 : CV RL 109 yX11_days cX11_days 6 (some .int) 1 := ⟨TT_mem 1616 (by decide +kernel) (by decide +kernel), ym_X11_days⟩
theorem cv_L_110 : CV RL 110 yX10_seed cX10_seed 3 (some .int) 1 := ⟨TT_mem 1014 (by decide +kernel) (by decide +kernel), ym_X10_seed⟩
theorem cv_L_113 : CV RL 113 yX11_seed cX11_seed 3 (some .int) 1 := ⟨TT_mem 1625 (by decide +kernel) (by decide +kernel), ym_X11_seed⟩
theorem cv_L_114 : CV RL 114 yX10_voice cX10_voice 4 (some .int) 3 := ⟨TT_mem 1018 (by decide +kernel) (by decide +kernel), ym_X10_voice⟩
theorem cv_L_117 : CV RL 117 yX11_voice cX11_voice 4 (some .int) 3 := ⟨TT_mem 1629 (by decide +kernel) (by decide +kernel), ym_X11_voice⟩
theorem cv_L_118 : CV RL 118 yX10_trace cX10_trace 2 (some .int) 1 := ⟨TT_mem 1049 (by decide +kernel) (by decide +kernel), ym_X10_trace⟩
theorem cv_L_121 : CV RL 121 yX11_trace cX11_trace 2 (some .int) 1 := ⟨TT_mem 1653 (by decide +kernel) (by decide +kernel), ym_X11_trace⟩
theorem cv_L_122 : CV RL 122 yX10_sheet cX10_sheet 4 (some .int) 3 := ⟨TT_mem 1053 (by decide +kernel) (by decide +kernel), ym_X10_sheet⟩
theorem cv_L_125 : CV RL 125 yX11_sheet cX11_sheet 5 (some .int) 3 := ⟨TT_mem 1657 (by decide +kernel) (by decide +kernel), ym_X11_sheet⟩
theorem cv_L_126 : CV RL 126 yX10_put cX10_put 5 (some .int) 3 := ⟨TT_mem 1069 (by decide +kernel) (by decide +kernel), ym_X10_put⟩
theorem cv_L_129 : CV RL 129 yX11_put cX11_put 4 (some .int) 3 := ⟨TT_mem 1661 (by decide +kernel) (by decide +kernel), ym_X11_put⟩
theorem cv_L_13 : CV RL 13 yX10_hall cX10_hall 3 (some .int) 2 := ⟨TT_mem 515 (by decide +kernel) (by decide +kernel), ym_X10_hall⟩
theorem cv_L_130 : CV RL 130 yX10_move cX10_move 8 (some .int) 5 := ⟨TT_mem 1078 (by decide +kernel) (by decide +kernel), ym_X10_move⟩
theorem cv_L_134 : CV RL 134 yX11_move cX11_move 7 (some .int) 5 := ⟨TT_mem 1668 (by decide +kernel) (by decide +kernel), ym_X11_move⟩
theorem cv_L_135 : CV RL 135 yX10_lets cX10_lets 4 (some .int) 1 := ⟨TT_mem 1088 (by decide +kernel) (by decide +kernel), ym_X10_lets⟩
theorem cv_L_138 : CV RL 138 yX11_lets cX11_lets 4 (some .int) 1 := ⟨TT_mem 1672 (by decide +kernel) (by decide +kernel), ym_X11_lets⟩
theorem cv_L_139 : CV RL 139 yX10_judge cX10_judge 6 (some .int) 1 := ⟨TT_mem 1092 (by decide +kernel) (by decide +kernel), ym_X10_judge⟩
theorem cv_L_142 : CV RL 142 yX11_judge cX11_judge 3 (some .int) 1 := ⟨TT_mem 1676 (by decide +kernel) (by decide +kernel), ym_X11_judge⟩
theorem cv_L_143 : CV RL 143 yX10_image cX10_image 1 (some .int) 0 := ⟨TT_mem 1097 (by decide +kernel) (by decide +kernel), ym_X10_image⟩
theorem cv_L_146 : CV RL 146 yX11_image cX11_image 1 (some .int) 0 := ⟨TT_mem 1680 (by decide +kernel) (by decide +kernel), ym_X11_image⟩
theorem cv_L_147 : CV RL 147 yX10_restore cX10_restore 1 (some .int) 0 := ⟨TT_mem 1112 (by decide +kernel) (by decide +kernel), ym_X10_restore⟩
theorem cv_L_150 : CV RL 150 yX11_restore cX11_restore 1 (some .int) 0 := ⟨TT_mem 1684 (by decide +kernel) (by decide +kernel), ym_X11_restore⟩
theorem cv_L_151 : CV RL 151 yX10_tell cX10_tell 2 (some .int) 1 := ⟨TT_mem 1116 (by decide +kernel) (by decide +kernel), ym_X10_tell⟩
theorem cv_L_154 : CV RL 154 yX11_tell cX11_tell 2 (some .int) 1 := ⟨TT_mem 1688 (by decide +kernel) (by decide +kernel), ym_X11_tell⟩
theorem cv_L_155 : CV RL 155 yX10_check cX10_check 3 (some .int) 0 := ⟨TT_mem 1124 (by decide +kernel) (by decide +kernel), ym_X10_check⟩
theorem cv_L_158 : CV RL 158 yX11_check cX11_check 4 (some .int) 0 := ⟨TT_mem 1692 (by decide +kernel) (by decide +kernel), ym_X11_check⟩
theorem cv_L_159 : CV RL 159 yX10_count cX10_count 2 (some .int) 1 := ⟨TT_mem 1129 (by decide +kernel) (by decide +kernel), ym_X10_count⟩
theorem cv_L_162 : CV RL 162 yX11_count cX11_count 2 (some .int) 1 := ⟨TT_mem 1696 (by decide +kernel) (by decide +kernel), ym_X11_count⟩
theorem cv_L_163 : CV RL 163 yX10_told cX10_told 2 (some .int) 1 := ⟨TT_mem 1142 (by decide +kernel) (by decide +kernel), ym_X10_told⟩
theorem cv_L_166 : CV RL 166 yX11_told cX11_told 2 (some .int) 1 := ⟨TT_mem 1708 (by decide +kernel) (by decide +kernel), ym_X11_told⟩
theorem cv_L_17 : CV RL 17 yX11_hall cX11_hall 4 (some .int) 2 := ⟨TT_mem 1285 (by decide +kernel) (by decide +kernel), ym_X11_hall⟩
theorem cv_L_18 : CV RL 18 yX10_square cX10_square 6 (some .int) 3 := ⟨TT_mem 538 (by decide +kernel) (by decide +kernel), ym_X10_square⟩
theorem cv_L_22 : CV RL 22 yX11_square cX11_square 5 (some .int) 3 := ⟨TT_mem 1302 (by decide +kernel) (by decide +kernel), ym_X11_square⟩
theorem cv_L_23 : CV RL 23 yX10_ofSquare cX10_ofSquare 5 (some .int) 2 := ⟨TT_mem 561 (by decide +kernel) (by decide +kernel), ym_X10_ofSquare⟩
theorem cv_L_26 : CV RL 26 yX11_ofSquare cX11_ofSquare 3 (some .int) 2 := ⟨TT_mem 1322 (by decide +kernel) (by decide +kernel), ym_X11_ofSquare⟩
theorem cv_L_27 : CV RL 27 yX10_as cX10_as 4 (some .int) 2 := ⟨TT_mem 617 (by decide +kernel) (by decide +kernel), ym_X10_as⟩
theorem cv_L_30 : CV RL 30 yX11_as cX11_as 4 (some .int) 2 := ⟨TT_mem 1396 (by decide +kernel) (by decide +kernel), ym_X11_as⟩
theorem cv_L_31 : CV RL 31 yX10_hand cX10_hand 2 (some .int) 1 := ⟨TT_mem 629 (by decide +kernel) (by decide +kernel), ym_X10_hand⟩
theorem cv_L_35 : CV RL 35 yX11_hand cX11_hand 2 (some .int) 1 := ⟨TT_mem 1404 (by decide +kernel) (by decide +kernel), ym_X11_hand⟩
theorem cv_L_36 : CV RL 36 yX10_slants cX10_slants 1 (some .int) 0 := ⟨TT_mem 650 (by decide +kernel) (by decide +kernel), ym_X10_slants⟩
theorem cv_L_40 : CV RL 40 yX11_slants cX11_slants 1 (some .int) 0 := ⟨TT_mem 1423 (by decide +kernel) (by decide +kernel), ym_X11_slants⟩
theorem cv_L_41 : CV RL 41 yX10_let cX10_let 2 (some .int) 1 := ⟨TT_mem 654 (by decide +kernel) (by decide +kernel), ym_X10_let⟩
theorem cv_L_44 : CV RL 44 yX11_let cX11_let 2 (some .int) 1 := ⟨TT_mem 1431 (by decide +kernel) (by decide +kernel), ym_X11_let⟩
theorem cv_L_45 : CV RL 45 yX10_out cX10_out 4 (some .int) 2 := ⟨TT_mem 713 (by decide +kernel) (by decide +kernel), ym_X10_out⟩
theorem cv_L_48 : CV RL 48 yX11_out cX11_out 6 (some .int) 2 := ⟨TT_mem 1474 (by decide +kernel) (by decide +kernel), ym_X11_out⟩
theorem cv_L_49 : CV RL 49 yX10_way cX10_way 4 (some .int) 2 := ⟨TT_mem 739 (by decide +kernel) (by decide +kernel), ym_X10_way⟩
theorem cv_L_52 : CV RL 52 yX11_way cX11_way 4 (some .int) 2 := ⟨TT_mem 1485 (by decide +kernel) (by decide +kernel), ym_X11_way⟩
theorem cv_L_53 : CV RL 53 yX10_undo cX10_undo 3 (some .int) 1 := ⟨TT_mem 748 (by decide +kernel) (by decide +kernel), ym_X10_undo⟩
theorem cv_L_56 : CV RL 56 yX11_undo cX11_undo 4 (some .int) 1 := ⟨TT_mem 1490 (by decide +kernel) (by decide +kernel), ym_X11_undo⟩
theorem cv_L_59 : CV RL 59 yX10_feed cX10_feed 4 (some .int) 2 := ⟨TT_mem 765 (by decide +kernel) (by decide +kernel), ym_X10_feed⟩
theorem cv_L_63 : CV RL 63 yX11_feed cX11_feed 5 (some .int) 2 := ⟨TT_mem 1502 (by decide +kernel) (by decide +kernel), ym_X11_feed⟩
theorem cv_L_64 : CV RL 64 yX10_text cX10_text 3 (some .int) 1 := ⟨TT_mem 774 (by decide +kernel) (by decide +kernel), ym_X10_text⟩
theorem cv_L_67 : CV RL 67 yX11_text cX11_text 5 (some .int) 1 := ⟨TT_mem 1508 (by decide +kernel) (by decide +kernel), ym_X11_text⟩
theorem cv_L_68 : CV RL 68 yX10_law cX10_law 5 (some .int) 4 := ⟨TT_mem 836 (by decide +kernel) (by decide +kernel), ym_X10_law⟩
theorem cv_L_72 : CV RL 72 yX11_law cX11_law 5 (some .int) 4 := ⟨TT_mem 1498 (by decide +kernel) (by decide +kernel), ym_X11_law⟩
theorem cv_L_73 : CV RL 73 yX10_round cX10_round 3 (some .int) 1 := ⟨TT_mem 841 (by decide +kernel) (by decide +kernel), ym_X10_round⟩
theorem cv_L_76 : CV RL 76 yX11_round cX11_round 5 (some .int) 1 := ⟨TT_mem 1512 (by decide +kernel) (by decide +kernel), ym_X11_round⟩
theorem cv_L_77 : CV RL 77 yX10_back cX10_back 3 (some .int) 1 := ⟨TT_mem 855 (by decide +kernel) (by decide +kernel), ym_X10_back⟩
theorem cv_L_80 : CV RL 80 yX11_back cX11_back 3 (some .int) 1 := ⟨TT_mem 1520 (by decide +kernel) (by decide +kernel), ym_X11_back⟩
theorem cv_L_81 : CV RL 81 yX10_throne cX10_throne 4 (some .int) 3 := ⟨TT_mem 877 (by decide +kernel) (by decide +kernel), ym_X10_throne⟩
theorem cv_L_84 : CV RL 84 yX11_throne cX11_throne 4 (some .int) 3 := ⟨TT_mem 1536 (by decide +kernel) (by decide +kernel), ym_X11_throne⟩
theorem cv_L_85 : CV RL 85 yX10_had cX10_had 2 (some .int) 0 := ⟨TT_mem 907 (by decide +kernel) (by decide +kernel), ym_X10_had⟩
theorem cv_L_88 : CV RL 88 yX11_had cX11_had 4 (some .int) 0 := ⟨TT_mem 1548 (by decide +kernel) (by decide +kernel), ym_X11_had⟩
theorem cv_L_89 : CV RL 89 yX10_odds cX10_odds 7 (some .long) 4 := ⟨TT_mem 919 (by decide +kernel) (by decide +kernel), ym_X10_odds⟩
theorem cv_L_93 : CV RL 93 yX11_odds cX11_odds 8 (some .long) 4 := ⟨TT_mem 1565 (by decide +kernel) (by decide +kernel), ym_X11_odds⟩
theorem cv_L_94 : CV RL 94 yX10_fits cX10_fits 4 (some .int) 2 := ⟨TT_mem 948 (by decide +kernel) (by decide +kernel), ym_X10_fits⟩
theorem cv_L_97 : CV RL 97 yX11_fits cX11_fits 3 (some .int) 2 := ⟨TT_mem 1588 (by decide +kernel) (by decide +kernel), ym_X11_fits⟩
theorem cv_L_98 : CV RL 98 yX10_tells cX10_tells 5 (some .int) 3 := ⟨TT_mem 972 (by decide +kernel) (by decide +kernel), ym_X10_tells⟩
theorem kl_L_57 : Cond.constantLong RL 57 (iL 4294967295) ∈ TT := TT_mem 1712 (by decide +kernel) (by decide +kernel)
theorem rm_law {cl sl d' n : Nat} (hc : cl ≤ 600000) (hs : sl ≤ 7302249) (h : d' ≤ 1000 ∧ n ≤ 40) : d' + 1 ≤ room_1.frames ∧ 8 + (n + 11) + 64 * d' ≤ room_1.locals ∧ cl ≤ room_1.cells ∧ sl ≤ room_1.slots := by
  refine ⟨?_, ?_, hc, hs⟩
  · show d' + 1 ≤ 2048
    omega
  · show 8 + (n + 11) + 64 * d' ≤ 84000
    omega
section LAWS
variable {p : Program} {l : Launch} {e : Env} {s : State} {m : MethodId} {below : List Frame} {meth : Method} {c : Code} {G : GG} {b L cl sl : Nat} {xs : Nat → Int32} {Q : State → Prop}
def RetLaw (p : Program) (l : Launch) (e : Env) (s : State) (m : MethodId) (below : List Frame) (meth : Method) (c : Code) (G : GG) (b cl sl : Nat) (Q : State → Prop) : Prop := ∀ (pc : Nat) (ls : Array Slot) (H : Heap) (locs : List Loc) (h1 : Mem), decode code pc = .ok (.ireturn, 1) → IW G s h1 H locs → W p l e room_1 s m #[Value.ref b] below meth c H locs cl sl Q (F0 m pc ls [.int 1])
theorem q_lawret {pc : Nat} {ls : Array Slot} {H : Heap} {locs : List Loc} {h1 : Mem} {x : Int32} (hret : RetLaw p l e s m below meth c G b cl sl Q) (hd : decode code pc = .ok (.ireturn, 1)) (hw : IW G s h1 H locs) (hs : some x = some (iI 1)) : W p l e room_1 s m #[Value.ref b] below meth c H locs cl sl Q (F0 m pc ls [.int x]) := by
  have hx : x = 1 := (Option.some.inj hs).trans (by decide)
  rw [hx]
  exact hret pc ls H locs h1 hd hw
theorem q_sld {cc : ByteArray} {pc : Nat} {ls : Array Slot} {H : Heap} {locs : List Loc} {h : Mem} {rest : List Value} {i : Int32} {ρ : Type} {r : ρ} {K : Int32 → Option ρ} (hx : p.tables.exec = Jvm.exec) (hb : c.code = cc) (hX : va_X b L xs s s.heap) (hbl : b < s.heap.size) (hbA : ¬ WA G b) (hw : IW G s h H locs) (hd : decode cc pc = .ok (.iaload, 1)) (hs : sld xs L i K = some r)
    (kk : ∀ v : Int32, K v = some r → W p l e room_1 s m #[Value.ref b] below meth c H locs cl sl Q (F0 m (pc + 1) ls (.int v :: rest))) : W p l e room_1 s m #[Value.ref b] below meth c H locs cl sl Q (F0 m pc ls (.int i :: .ref b :: rest)) := by
  obtain ⟨hi, hs⟩ := q_ch hs
  exact va_sld hx hb hX hbl hbA hw.2.2 (in_of hi) hd (kk _ hs)
set_option maxHeartbeats 40000000 in
set_option maxRecDepth 100000 in
theorem c_law (hcl : cl ≤ 600000) (hsl : sl ≤ 7302249) (hx : p.tables.exec = Jvm.exec) (hb : c.code = code) (hml : c.maxLocals = 4) (hown : s.vm.findClass RL = some m.cls) (hts : ∀ w ∈ TT, w.before #[Value.ref b] s = true) (hK : KK G s) (hSt : Stat G s s.heap) (hN : Nest s) (hX : va_X b L xs s s.heap) (hbl : b < s.heap.size) (hbA : ¬ WA G b)
    (hret : RetLaw p l e s m below meth c G b cl sl Q) (h : Mem) (hs : f_law xs L h = some (iI 1)) (H : Heap) (locs : List Loc) (hw : IW G s h H locs) (ls : Array Slot) (hl : lv_has ls 4 [(0, .ref b), (1, .ref (G.2.2.1 0)), (2, .ref (G.2.2.1 72)), (3, .int (iI 0))]) : W p l e room_1 s m #[Value.ref b] below meth c H locs cl sl Q (F0 m 18 ls []) := by
  unfold f_law at hs
  refine (q_lo2 (P0 := fun (x1 : Int32) (h2 : Mem) => ∀ (H : Heap) (locs : List Loc), IW G s h2 H locs → ∀ ls : Array Slot, lv_has ls 4 [(0, .ref b), (1, .ref (G.2.2.1 0)), (2, .ref (G.2.2.1 72)), (3, .int x1)] → W p l e room_1 s m #[Value.ref b] below meth c H locs cl sl Q (F0 m 18 ls [])) hs ?_) _ _ hw _ (lv_sub hl [0, 1, 2, 3] rfl)
  intro K3 hK3 x1 h2 hs H locs hw ls hl
  unfold f_law_k3 at hs
  refine lv_iload_n (pc := 18) hx hb dL_law_18 rfl (lv_at hl 3 rfl) ?_
  refine lv_aload_n (pc := 19) hx hb dL_law_19 rfl (lv_at hl 0 rfl) ?_
  refine va_slen (pc := 20) hx hb hX hbl hbA hw.2.2 dL_law_20 ?_
  refine lv_bipush (pc := 21) (v := (iI 6)) hx hb dL_law_21 (by decide) ?_
  refine lv_isub (pc := 23) hx hb dL_law_23 ?_
  refine lv_icmp_gt (pc := 24) (tgt := 1297) hx hb dL_law_24 (by decide) (fun hc => ?_) (fun hc => ?_)
  · replace hs := q_t hc hs
    refine lv_iconst (pc := 1297) (v := (iI 1)) hx hb dL_law_1297 rfl ?_
    exact q_lawret hret dL_law_1298 hw hs
  · replace hs := q_f hc hs
    refine lv_aload_n (pc := 27) hx hb dL_law_27 rfl (lv_at hl 0 rfl) ?_
    refine lv_iload_n (pc := 28) hx hb dL_law_28 rfl (lv_at hl 3 rfl) ?_
    refine q_sld (pc := 29) hx hb hX hbl hbA hw dL_law_29 hs (fun v4 hs => ?_)
    refine lv_bipush (pc := 30) (v := (iI 63)) hx hb dL_law_30 (by decide) ?_
    refine lv_iand (pc := 32) hx hb dL_law_32 ?_
    refine q_join1 (P0 := fun (h5 : Mem) => ∀ (H : Heap) (locs : List Loc), IW G s h5 H locs → ∀ ls : Array Slot, lv_has ls 4 [(0, .ref b), (1, .ref (G.2.2.1 0)), (2, .ref (G.2.2.1 72)), (3, .int x1)] → W p l e room_1 s m #[Value.ref b] below meth c H locs cl sl Q (F0 m 1291 ls [])) hs ?_ ?_
    · intro h5 hs H locs hw ls hl
      obtain ⟨x7, ex7, hs⟩ := q_nm hs
      refine lv_iinc (pc := 1291) (v := x7) (lv' := [(3, .int x7), (0, .ref b), (1, .ref (G.2.2.1 0)), (2, .ref (G.2.2.1 72))]) hx hb dL_law_1291 hl (k := 3) rfl ex7 (by decide) rfl (fun ls hl => ?_)
      refine lv_goto (pc := 1294) (tgt := 18) hx hb dL_law_1294 (by decide) ?_
      exact hK3 _ _ hs _ _ hw _ (lv_sub hl [1, 2, 3, 0] rfl)
    · intro K6 hK6 hs
      by_cases hc0 : (v4 &&& (iI 63)) = iI 0
      · replace hs := q_t hc0 hs
        refine lv_tableIn (pc := 33) (off := 159) (tgt := 192) hx hb dL_law_33 (by rw [hc0]; decide) (by rw [hc0]; decide) (by rw [hc0]; decide) (by decide) ?_
        refine lv_aload_n (pc := 192) hx hb dL_law_192 rfl (lv_at hl 1 rfl) ?_
        refine lv_aload_n (pc := 193) hx hb dL_law_193 rfl (lv_at hl 0 rfl) ?_
        refine lv_iload_n (pc := 194) hx hb dL_law_194 rfl (lv_at hl 3 rfl) ?_
        refine lv_iconst (pc := 195) (v := (iI 1)) hx hb dL_law_195 rfl ?_
        refine lv_iadd (pc := 196) hx hb dL_law_196 ?_
        refine q_sld (pc := 197) hx hb hX hbl hbA hw dL_law_197 hs (fun v8 hs => ?_)
        refine lv_aload_n (pc := 198) hx hb dL_law_198 rfl (lv_at hl 0 rfl) ?_
        refine lv_iload_n (pc := 199) hx hb dL_law_199 rfl (lv_at hl 3 rfl) ?_
        refine lv_iconst (pc := 200) (v := (iI 2)) hx hb dL_law_200 rfl ?_
        refine lv_iadd (pc := 201) hx hb dL_law_201 ?_
        refine q_sld (pc := 202) hx hb hX hbl hbA hw dL_law_202 hs (fun v9 hs => ?_)
        obtain ⟨v10, h11, ev, hs⟩ := q_cal2 hs
        refine q_callV (pc := 203) (q := 0) (As := [.int v8, .int v9]) (rest := []) (rs := [.int v10]) hx hb hml hl.1 hts hown hK hSt hN hw (c_X10_hall l G v8 v9 h2 v10 h11 ev) rfl rfl cv_L_13 (rm_law hcl hsl (by decide)) rfl (Nat.le_of_ble_eq_true rfl) rfl rfl dL_law_203 (fun H locs hw => ?_)
        refine lv_aload_n (pc := 206) hx hb dL_law_206 rfl (lv_at hl 2 rfl) ?_
        refine lv_aload_n (pc := 207) hx hb dL_law_207 rfl (lv_at hl 0 rfl) ?_
        refine lv_iload_n (pc := 208) hx hb dL_law_208 rfl (lv_at hl 3 rfl) ?_
        refine lv_iconst (pc := 209) (v := (iI 1)) hx hb dL_law_209 rfl ?_
        refine lv_iadd (pc := 210) hx hb dL_law_210 ?_
        refine q_sld (pc := 211) hx hb hX hbl hbA hw dL_law_211 hs (fun v12 hs => ?_)
        refine lv_aload_n (pc := 212) hx hb dL_law_212 rfl (lv_at hl 0 rfl) ?_
        refine lv_iload_n (pc := 213) hx hb dL_law_213 rfl (lv_at hl 3 rfl) ?_
        refine lv_iconst (pc := 214) (v := (iI 2)) hx hb dL_law_214 rfl ?_
        refine lv_iadd (pc := 215) hx hb dL_law_215 ?_
        refine q_sld (pc := 216) hx hb hX hbl hbA hw dL_law_216 hs (fun v13 hs => ?_)
        obtain ⟨v14, h15, ev, hs⟩ := q_cal2 hs
        refine q_callV (pc := 217) (q := 72) (As := [.int v12, .int v13]) (rest := [.int v10]) (rs := [.int v14, .int v10]) hx hb hml hl.1 hts hown hK hSt hN hw (c_X11_hall l G v12 v13 h11 v14 h15 ev) rfl rfl cv_L_17 (rm_law hcl hsl (by decide)) rfl (Nat.le_of_ble_eq_true rfl) rfl rfl dL_law_217 (fun H locs hw => ?_)
        refine lv_icmp_eq (pc := 220) (tgt := 1291) hx hb dL_law_220 (by decide) (fun hc => ?_) (fun hc => ?_)
        · replace hs := q_t hc hs
          exact hK6 _ hs _ _ hw _ (lv_sub hl [0, 1, 2, 3] rfl)
        · replace hs := q_f hc hs
          refine lv_iconst (pc := 223) (v := (iI 0)) hx hb dL_law_223 rfl ?_
          exact q_lawret hret dL_law_224 hw hs
      replace hs := q_f hc0 hs
      by_cases hc1 : (v4 &&& (iI 63)) = iI 1
      · replace hs := q_t hc1 hs
        refine lv_tableIn (pc := 33) (off := 192) (tgt := 225) hx hb dL_law_33 (by rw [hc1]; decide) (by rw [hc1]; decide) (by rw [hc1]; decide) (by decide) ?_
        refine lv_aload_n (pc := 225) hx hb dL_law_225 rfl (lv_at hl 1 rfl) ?_
        refine lv_aload_n (pc := 226) hx hb dL_law_226 rfl (lv_at hl 0 rfl) ?_
        refine lv_iload_n (pc := 227) hx hb dL_law_227 rfl (lv_at hl 3 rfl) ?_
        refine lv_iconst (pc := 228) (v := (iI 1)) hx hb dL_law_228 rfl ?_
        refine lv_iadd (pc := 229) hx hb dL_law_229 ?_
        refine q_sld (pc := 230) hx hb hX hbl hbA hw dL_law_230 hs (fun v16 hs => ?_)
        refine lv_aload_n (pc := 231) hx hb dL_law_231 rfl (lv_at hl 0 rfl) ?_
        refine lv_iload_n (pc := 232) hx hb dL_law_232 rfl (lv_at hl 3 rfl) ?_
        refine lv_iconst (pc := 233) (v := (iI 2)) hx hb dL_law_233 rfl ?_
        refine lv_iadd (pc := 234) hx hb dL_law_234 ?_
        refine q_sld (pc := 235) hx hb hX hbl hbA hw dL_law_235 hs (fun v17 hs => ?_)
        refine lv_aload_n (pc := 236) hx hb dL_law_236 rfl (lv_at hl 0 rfl) ?_
        refine lv_iload_n (pc := 237) hx hb dL_law_237 rfl (lv_at hl 3 rfl) ?_
        refine lv_iconst (pc := 238) (v := (iI 3)) hx hb dL_law_238 rfl ?_
        refine lv_iadd (pc := 239) hx hb dL_law_239 ?_
        refine q_sld (pc := 240) hx hb hX hbl hbA hw dL_law_240 hs (fun v18 hs => ?_)
        obtain ⟨v19, h20, ev, hs⟩ := q_cal2 hs
        refine q_callV (pc := 241) (q := 0) (As := [.int v16, .int v17, .int v18]) (rest := []) (rs := [.int v19]) hx hb hml hl.1 hts hown hK hSt hN hw (c_X10_square l G v16 v17 v18 h2 v19 h20 ev) rfl rfl cv_L_18 (rm_law hcl hsl (by decide)) rfl (Nat.le_of_ble_eq_true rfl) rfl rfl dL_law_241 (fun H locs hw => ?_)
        refine lv_aload_n (pc := 244) hx hb dL_law_244 rfl (lv_at hl 2 rfl) ?_
        refine lv_aload_n (pc := 245) hx hb dL_law_245 rfl (lv_at hl 0 rfl) ?_
        refine lv_iload_n (pc := 246) hx hb dL_law_246 rfl (lv_at hl 3 rfl) ?_
        refine lv_iconst (pc := 247) (v := (iI 1)) hx hb dL_law_247 rfl ?_
        refine lv_iadd (pc := 248) hx hb dL_law_248 ?_
        refine q_sld (pc := 249) hx hb hX hbl hbA hw dL_law_249 hs (fun v21 hs => ?_)
        refine lv_aload_n (pc := 250) hx hb dL_law_250 rfl (lv_at hl 0 rfl) ?_
        refine lv_iload_n (pc := 251) hx hb dL_law_251 rfl (lv_at hl 3 rfl) ?_
        refine lv_iconst (pc := 252) (v := (iI 2)) hx hb dL_law_252 rfl ?_
        refine lv_iadd (pc := 253) hx hb dL_law_253 ?_
        refine q_sld (pc := 254) hx hb hX hbl hbA hw dL_law_254 hs (fun v22 hs => ?_)
        refine lv_aload_n (pc := 255) hx hb dL_law_255 rfl (lv_at hl 0 rfl) ?_
        refine lv_iload_n (pc := 256) hx hb dL_law_256 rfl (lv_at hl 3 rfl) ?_
        refine lv_iconst (pc := 257) (v := (iI 3)) hx hb dL_law_257 rfl ?_
        refine lv_iadd (pc := 258) hx hb dL_law_258 ?_
        refine q_sld (pc := 259) hx hb hX hbl hbA hw dL_law_259 hs (fun v23 hs => ?_)
        obtain ⟨v24, h25, ev, hs⟩ := q_cal2 hs
        refine q_callV (pc := 260) (q := 72) (As := [.int v21, .int v22, .int v23]) (rest := [.int v19]) (rs := [.int v24, .int v19]) hx hb hml hl.1 hts hown hK hSt hN hw (c_X11_square l G v21 v22 v23 h20 v24 h25 ev) rfl rfl cv_L_22 (rm_law hcl hsl (by decide)) rfl (Nat.le_of_ble_eq_true rfl) rfl rfl dL_law_260 (fun H locs hw => ?_)
        refine lv_icmp_eq (pc := 263) (tgt := 1291) hx hb dL_law_263 (by decide) (fun hc => ?_) (fun hc => ?_)
        · replace hs := q_t hc hs
          exact hK6 _ hs _ _ hw _ (lv_sub hl [0, 1, 2, 3] rfl)
        · replace hs := q_f hc hs
          refine lv_iconst (pc := 266) (v := (iI 0)) hx hb dL_law_266 rfl ?_
          exact q_lawret hret dL_law_267 hw hs
      replace hs := q_f hc1 hs
      by_cases hc2 : (v4 &&& (iI 63)) = iI 2
      · replace hs := q_t hc2 hs
        refine lv_tableIn (pc := 33) (off := 235) (tgt := 268) hx hb dL_law_33 (by rw [hc2]; decide) (by rw [hc2]; decide) (by rw [hc2]; decide) (by decide) ?_
        refine lv_aload_n (pc := 268) hx hb dL_law_268 rfl (lv_at hl 1 rfl) ?_
        refine lv_aload_n (pc := 269) hx hb dL_law_269 rfl (lv_at hl 0 rfl) ?_
        refine lv_iload_n (pc := 270) hx hb dL_law_270 rfl (lv_at hl 3 rfl) ?_
        refine lv_iconst (pc := 271) (v := (iI 1)) hx hb dL_law_271 rfl ?_
        refine lv_iadd (pc := 272) hx hb dL_law_272 ?_
        refine q_sld (pc := 273) hx hb hX hbl hbA hw dL_law_273 hs (fun v26 hs => ?_)
        refine lv_aload_n (pc := 274) hx hb dL_law_274 rfl (lv_at hl 0 rfl) ?_
        refine lv_iload_n (pc := 275) hx hb dL_law_275 rfl (lv_at hl 3 rfl) ?_
        refine lv_iconst (pc := 276) (v := (iI 2)) hx hb dL_law_276 rfl ?_
        refine lv_iadd (pc := 277) hx hb dL_law_277 ?_
        refine q_sld (pc := 278) hx hb hX hbl hbA hw dL_law_278 hs (fun v27 hs => ?_)
        obtain ⟨v28, h29, ev, hs⟩ := q_cal2 hs
        refine q_callV (pc := 279) (q := 0) (As := [.int v26, .int v27]) (rest := []) (rs := [.int v28]) hx hb hml hl.1 hts hown hK hSt hN hw (c_X10_ofSquare l G v26 v27 h2 v28 h29 ev) rfl rfl cv_L_23 (rm_law hcl hsl (by decide)) rfl (Nat.le_of_ble_eq_true rfl) rfl rfl dL_law_279 (fun H locs hw => ?_)
        refine lv_aload_n (pc := 282) hx hb dL_law_282 rfl (lv_at hl 2 rfl) ?_
        refine lv_aload_n (pc := 283) hx hb dL_law_283 rfl (lv_at hl 0 rfl) ?_
        refine lv_iload_n (pc := 284) hx hb dL_law_284 rfl (lv_at hl 3 rfl) ?_
        refine lv_iconst (pc := 285) (v := (iI 1)) hx hb dL_law_285 rfl ?_
        refine lv_iadd (pc := 286) hx hb dL_law_286 ?_
        refine q_sld (pc := 287) hx hb hX hbl hbA hw dL_law_287 hs (fun v30 hs => ?_)
        refine lv_aload_n (pc := 288) hx hb dL_law_288 rfl (lv_at hl 0 rfl) ?_
        refine lv_iload_n (pc := 289) hx hb dL_law_289 rfl (lv_at hl 3 rfl) ?_
        refine lv_iconst (pc := 290) (v := (iI 2)) hx hb dL_law_290 rfl ?_
        refine lv_iadd (pc := 291) hx hb dL_law_291 ?_
        refine q_sld (pc := 292) hx hb hX hbl hbA hw dL_law_292 hs (fun v31 hs => ?_)
        obtain ⟨v32, h33, ev, hs⟩ := q_cal2 hs
        refine q_callV (pc := 293) (q := 72) (As := [.int v30, .int v31]) (rest := [.int v28]) (rs := [.int v32, .int v28]) hx hb hml hl.1 hts hown hK hSt hN hw (c_X11_ofSquare l G v30 v31 h29 v32 h33 ev) rfl rfl cv_L_26 (rm_law hcl hsl (by decide)) rfl (Nat.le_of_ble_eq_true rfl) rfl rfl dL_law_293 (fun H locs hw => ?_)
        refine lv_icmp_eq (pc := 296) (tgt := 1291) hx hb dL_law_296 (by decide) (fun hc => ?_) (fun hc => ?_)
        · replace hs := q_t hc hs
          exact hK6 _ hs _ _ hw _ (lv_sub hl [0, 1, 2, 3] rfl)
        · replace hs := q_f hc hs
          refine lv_iconst (pc := 299) (v := (iI 0)) hx hb dL_law_299 rfl ?_
          exact q_lawret hret dL_law_300 hw hs
      replace hs := q_f hc2 hs
      by_cases hc3 : (v4 &&& (iI 63)) = iI 3
      · replace hs := q_t hc3 hs
        refine lv_tableIn (pc := 33) (off := 268) (tgt := 301) hx hb dL_law_33 (by rw [hc3]; decide) (by rw [hc3]; decide) (by rw [hc3]; decide) (by decide) ?_
        refine lv_aload_n (pc := 301) hx hb dL_law_301 rfl (lv_at hl 1 rfl) ?_
        refine lv_aload_n (pc := 302) hx hb dL_law_302 rfl (lv_at hl 0 rfl) ?_
        refine lv_iload_n (pc := 303) hx hb dL_law_303 rfl (lv_at hl 3 rfl) ?_
        refine lv_iconst (pc := 304) (v := (iI 1)) hx hb dL_law_304 rfl ?_
        refine lv_iadd (pc := 305) hx hb dL_law_305 ?_
        refine q_sld (pc := 306) hx hb hX hbl hbA hw dL_law_306 hs (fun v34 hs => ?_)
        refine lv_aload_n (pc := 307) hx hb dL_law_307 rfl (lv_at hl 0 rfl) ?_
        refine lv_iload_n (pc := 308) hx hb dL_law_308 rfl (lv_at hl 3 rfl) ?_
        refine lv_iconst (pc := 309) (v := (iI 2)) hx hb dL_law_309 rfl ?_
        refine lv_iadd (pc := 310) hx hb dL_law_310 ?_
        refine q_sld (pc := 311) hx hb hX hbl hbA hw dL_law_311 hs (fun v35 hs => ?_)
        obtain ⟨v36, h37, ev, hs⟩ := q_cal2 hs
        refine q_callV (pc := 312) (q := 0) (As := [.int v34, .int v35]) (rest := []) (rs := [.int v36]) hx hb hml hl.1 hts hown hK hSt hN hw (c_X10_as l G v34 v35 h2 v36 h37 ev) rfl rfl cv_L_27 (rm_law hcl hsl (by decide)) rfl (Nat.le_of_ble_eq_true rfl) rfl rfl dL_law_312 (fun H locs hw => ?_)
        refine lv_aload_n (pc := 315) hx hb dL_law_315 rfl (lv_at hl 2 rfl) ?_
        refine lv_aload_n (pc := 316) hx hb dL_law_316 rfl (lv_at hl 0 rfl) ?_
        refine lv_iload_n (pc := 317) hx hb dL_law_317 rfl (lv_at hl 3 rfl) ?_
        refine lv_iconst (pc := 318) (v := (iI 1)) hx hb dL_law_318 rfl ?_
        refine lv_iadd (pc := 319) hx hb dL_law_319 ?_
        refine q_sld (pc := 320) hx hb hX hbl hbA hw dL_law_320 hs (fun v38 hs => ?_)
        refine lv_aload_n (pc := 321) hx hb dL_law_321 rfl (lv_at hl 0 rfl) ?_
        refine lv_iload_n (pc := 322) hx hb dL_law_322 rfl (lv_at hl 3 rfl) ?_
        refine lv_iconst (pc := 323) (v := (iI 2)) hx hb dL_law_323 rfl ?_
        refine lv_iadd (pc := 324) hx hb dL_law_324 ?_
        refine q_sld (pc := 325) hx hb hX hbl hbA hw dL_law_325 hs (fun v39 hs => ?_)
        obtain ⟨v40, h41, ev, hs⟩ := q_cal2 hs
        refine q_callV (pc := 326) (q := 72) (As := [.int v38, .int v39]) (rest := [.int v36]) (rs := [.int v40, .int v36]) hx hb hml hl.1 hts hown hK hSt hN hw (c_X11_as l G v38 v39 h37 v40 h41 ev) rfl rfl cv_L_30 (rm_law hcl hsl (by decide)) rfl (Nat.le_of_ble_eq_true rfl) rfl rfl dL_law_326 (fun H locs hw => ?_)
        refine lv_icmp_eq (pc := 329) (tgt := 1291) hx hb dL_law_329 (by decide) (fun hc => ?_) (fun hc => ?_)
        · replace hs := q_t hc hs
          exact hK6 _ hs _ _ hw _ (lv_sub hl [0, 1, 2, 3] rfl)
        · replace hs := q_f hc hs
          refine lv_iconst (pc := 332) (v := (iI 0)) hx hb dL_law_332 rfl ?_
          exact q_lawret hret dL_law_333 hw hs
      replace hs := q_f hc3 hs
      by_cases hc4 : (v4 &&& (iI 63)) = iI 4
      · replace hs := q_t hc4 hs
        refine lv_tableIn (pc := 33) (off := 301) (tgt := 334) hx hb dL_law_33 (by rw [hc4]; decide) (by rw [hc4]; decide) (by rw [hc4]; decide) (by decide) ?_
        refine lv_aload_n (pc := 334) hx hb dL_law_334 rfl (lv_at hl 1 rfl) ?_
        refine lv_aload_n (pc := 335) hx hb dL_law_335 rfl (lv_at hl 0 rfl) ?_
        refine lv_iload_n (pc := 336) hx hb dL_law_336 rfl (lv_at hl 3 rfl) ?_
        refine lv_iconst (pc := 337) (v := (iI 1)) hx hb dL_law_337 rfl ?_
        refine lv_iadd (pc := 338) hx hb dL_law_338 ?_
        refine q_sld (pc := 339) hx hb hX hbl hbA hw dL_law_339 hs (fun v42 hs => ?_)
        obtain ⟨v43, h44, ev, hs⟩ := q_cal2 hs
        refine q_callV (pc := 340) (q := 0) (As := [.int v42]) (rest := []) (rs := [.int v43]) hx hb hml hl.1 hts hown hK hSt hN hw (c_X10_hand l G v42 h2 v43 h44 ev) rfl rfl cv_L_31 (rm_law hcl hsl (by decide)) rfl (Nat.le_of_ble_eq_true rfl) rfl rfl dL_law_340 (fun H locs hw => ?_)
        refine lv_aload_n (pc := 343) hx hb dL_law_343 rfl (lv_at hl 2 rfl) ?_
        refine lv_aload_n (pc := 344) hx hb dL_law_344 rfl (lv_at hl 0 rfl) ?_
        refine lv_iload_n (pc := 345) hx hb dL_law_345 rfl (lv_at hl 3 rfl) ?_
        refine lv_iconst (pc := 346) (v := (iI 1)) hx hb dL_law_346 rfl ?_
        refine lv_iadd (pc := 347) hx hb dL_law_347 ?_
        refine q_sld (pc := 348) hx hb hX hbl hbA hw dL_law_348 hs (fun v45 hs => ?_)
        obtain ⟨v46, h47, ev, hs⟩ := q_cal2 hs
        refine q_callV (pc := 349) (q := 72) (As := [.int v45]) (rest := [.int v43]) (rs := [.int v46, .int v43]) hx hb hml hl.1 hts hown hK hSt hN hw (c_X11_hand l G v45 h44 v46 h47 ev) rfl rfl cv_L_35 (rm_law hcl hsl (by decide)) rfl (Nat.le_of_ble_eq_true rfl) rfl rfl dL_law_349 (fun H locs hw => ?_)
        refine lv_icmp_eq (pc := 352) (tgt := 1291) hx hb dL_law_352 (by decide) (fun hc => ?_) (fun hc => ?_)
        · replace hs := q_t hc hs
          exact hK6 _ hs _ _ hw _ (lv_sub hl [0, 1, 2, 3] rfl)
        · replace hs := q_f hc hs
          refine lv_iconst (pc := 355) (v := (iI 0)) hx hb dL_law_355 rfl ?_
          exact q_lawret hret dL_law_356 hw hs
      replace hs := q_f hc4 hs
      by_cases hc5 : (v4 &&& (iI 63)) = iI 5
      · replace hs := q_t hc5 hs
        refine lv_tableIn (pc := 33) (off := 324) (tgt := 357) hx hb dL_law_33 (by rw [hc5]; decide) (by rw [hc5]; decide) (by rw [hc5]; decide) (by decide) ?_
        refine lv_aload_n (pc := 357) hx hb dL_law_357 rfl (lv_at hl 1 rfl) ?_
        obtain ⟨v48, ev, hs⟩ := q_cal hs
        refine q_callV (pc := 358) (q := 0) (As := []) (rest := []) (rs := [.int v48]) hx hb hml hl.1 hts hown hK hSt hN hw (c_X10_slants l G h2 v48 ev) rfl rfl cv_L_36 (rm_law hcl hsl (by decide)) rfl (Nat.le_of_ble_eq_true rfl) rfl rfl dL_law_358 (fun H locs hw => ?_)
        refine lv_aload_n (pc := 361) hx hb dL_law_361 rfl (lv_at hl 2 rfl) ?_
        obtain ⟨v49, ev, hs⟩ := q_cal hs
        refine q_callV (pc := 362) (q := 72) (As := []) (rest := [.int v48]) (rs := [.int v49, .int v48]) hx hb hml hl.1 hts hown hK hSt hN hw (c_X11_slants l G h2 v49 ev) rfl rfl cv_L_40 (rm_law hcl hsl (by decide)) rfl (Nat.le_of_ble_eq_true rfl) rfl rfl dL_law_362 (fun H locs hw => ?_)
        refine lv_icmp_eq (pc := 365) (tgt := 1291) hx hb dL_law_365 (by decide) (fun hc => ?_) (fun hc => ?_)
        · replace hs := q_t hc hs
          exact hK6 _ hs _ _ hw _ (lv_sub hl [0, 1, 2, 3] rfl)
        · replace hs := q_f hc hs
          refine lv_iconst (pc := 368) (v := (iI 0)) hx hb dL_law_368 rfl ?_
          exact q_lawret hret dL_law_369 hw hs
      replace hs := q_f hc5 hs
      by_cases hc6 : (v4 &&& (iI 63)) = iI 6
      · replace hs := q_t hc6 hs
        refine lv_tableIn (pc := 33) (off := 337) (tgt := 370) hx hb dL_law_33 (by rw [hc6]; decide) (by rw [hc6]; decide) (by rw [hc6]; decide) (by decide) ?_
        refine lv_aload_n (pc := 370) hx hb dL_law_370 rfl (lv_at hl 1 rfl) ?_
        refine lv_aload_n (pc := 371) hx hb dL_law_371 rfl (lv_at hl 0 rfl) ?_
        refine lv_iload_n (pc := 372) hx hb dL_law_372 rfl (lv_at hl 3 rfl) ?_
        refine lv_iconst (pc := 373) (v := (iI 1)) hx hb dL_law_373 rfl ?_
        refine lv_iadd (pc := 374) hx hb dL_law_374 ?_
        refine q_sld (pc := 375) hx hb hX hbl hbA hw dL_law_375 hs (fun v50 hs => ?_)
        obtain ⟨v51, h52, ev, hs⟩ := q_cal2 hs
        refine q_callV (pc := 376) (q := 0) (As := [.int v50]) (rest := []) (rs := [.int v51]) hx hb hml hl.1 hts hown hK hSt hN hw (c_X10_let l G v50 h2 v51 h52 ev) rfl rfl cv_L_41 (rm_law hcl hsl (by decide)) rfl (Nat.le_of_ble_eq_true rfl) rfl rfl dL_law_376 (fun H locs hw => ?_)
        refine lv_aload_n (pc := 379) hx hb dL_law_379 rfl (lv_at hl 2 rfl) ?_
        refine lv_aload_n (pc := 380) hx hb dL_law_380 rfl (lv_at hl 0 rfl) ?_
        refine lv_iload_n (pc := 381) hx hb dL_law_381 rfl (lv_at hl 3 rfl) ?_
        refine lv_iconst (pc := 382) (v := (iI 1)) hx hb dL_law_382 rfl ?_
        refine lv_iadd (pc := 383) hx hb dL_law_383 ?_
        refine q_sld (pc := 384) hx hb hX hbl hbA hw dL_law_384 hs (fun v53 hs => ?_)
        obtain ⟨v54, h55, ev, hs⟩ := q_cal2 hs
        refine q_callV (pc := 385) (q := 72) (As := [.int v53]) (rest := [.int v51]) (rs := [.int v54, .int v51]) hx hb hml hl.1 hts hown hK hSt hN hw (c_X11_let l G v53 h52 v54 h55 ev) rfl rfl cv_L_44 (rm_law hcl hsl (by decide)) rfl (Nat.le_of_ble_eq_true rfl) rfl rfl dL_law_385 (fun H locs hw => ?_)
        refine lv_icmp_eq (pc := 388) (tgt := 1291) hx hb dL_law_388 (by decide) (fun hc => ?_) (fun hc => ?_)
        · replace hs := q_t hc hs
          exact hK6 _ hs _ _ hw _ (lv_sub hl [0, 1, 2, 3] rfl)
        · replace hs := q_f hc hs
          refine lv_iconst (pc := 391) (v := (iI 0)) hx hb dL_law_391 rfl ?_
          exact q_lawret hret dL_law_392 hw hs
      replace hs := q_f hc6 hs
      by_cases hc7 : (v4 &&& (iI 63)) = iI 7
      · replace hs := q_t hc7 hs
        refine lv_tableIn (pc := 33) (off := 360) (tgt := 393) hx hb dL_law_33 (by rw [hc7]; decide) (by rw [hc7]; decide) (by rw [hc7]; decide) (by decide) ?_
        refine lv_aload_n (pc := 393) hx hb dL_law_393 rfl (lv_at hl 1 rfl) ?_
        refine lv_aload_n (pc := 394) hx hb dL_law_394 rfl (lv_at hl 0 rfl) ?_
        refine lv_iload_n (pc := 395) hx hb dL_law_395 rfl (lv_at hl 3 rfl) ?_
        refine lv_iconst (pc := 396) (v := (iI 1)) hx hb dL_law_396 rfl ?_
        refine lv_iadd (pc := 397) hx hb dL_law_397 ?_
        refine q_sld (pc := 398) hx hb hX hbl hbA hw dL_law_398 hs (fun v56 hs => ?_)
        refine lv_aload_n (pc := 399) hx hb dL_law_399 rfl (lv_at hl 0 rfl) ?_
        refine lv_iload_n (pc := 400) hx hb dL_law_400 rfl (lv_at hl 3 rfl) ?_
        refine lv_iconst (pc := 401) (v := (iI 2)) hx hb dL_law_401 rfl ?_
        refine lv_iadd (pc := 402) hx hb dL_law_402 ?_
        refine q_sld (pc := 403) hx hb hX hbl hbA hw dL_law_403 hs (fun v57 hs => ?_)
        obtain ⟨v58, h59, ev, hs⟩ := q_cal2 hs
        refine q_callV (pc := 404) (q := 0) (As := [.int v56, .int v57]) (rest := []) (rs := [.int v58]) hx hb hml hl.1 hts hown hK hSt hN hw (c_X10_out l G v56 v57 h2 v58 h59 ev) rfl rfl cv_L_45 (rm_law hcl hsl (by decide)) rfl (Nat.le_of_ble_eq_true rfl) rfl rfl dL_law_404 (fun H locs hw => ?_)
        refine lv_aload_n (pc := 407) hx hb dL_law_407 rfl (lv_at hl 2 rfl) ?_
        refine lv_aload_n (pc := 408) hx hb dL_law_408 rfl (lv_at hl 0 rfl) ?_
        refine lv_iload_n (pc := 409) hx hb dL_law_409 rfl (lv_at hl 3 rfl) ?_
        refine lv_iconst (pc := 410) (v := (iI 1)) hx hb dL_law_410 rfl ?_
        refine lv_iadd (pc := 411) hx hb dL_law_411 ?_
        refine q_sld (pc := 412) hx hb hX hbl hbA hw dL_law_412 hs (fun v60 hs => ?_)
        refine lv_aload_n (pc := 413) hx hb dL_law_413 rfl (lv_at hl 0 rfl) ?_
        refine lv_iload_n (pc := 414) hx hb dL_law_414 rfl (lv_at hl 3 rfl) ?_
        refine lv_iconst (pc := 415) (v := (iI 2)) hx hb dL_law_415 rfl ?_
        refine lv_iadd (pc := 416) hx hb dL_law_416 ?_
        refine q_sld (pc := 417) hx hb hX hbl hbA hw dL_law_417 hs (fun v61 hs => ?_)
        obtain ⟨v62, h63, ev, hs⟩ := q_cal2 hs
        refine q_callV (pc := 418) (q := 72) (As := [.int v60, .int v61]) (rest := [.int v58]) (rs := [.int v62, .int v58]) hx hb hml hl.1 hts hown hK hSt hN hw (c_X11_out l G v60 v61 h59 v62 h63 ev) rfl rfl cv_L_48 (rm_law hcl hsl (by decide)) rfl (Nat.le_of_ble_eq_true rfl) rfl rfl dL_law_418 (fun H locs hw => ?_)
        refine lv_icmp_eq (pc := 421) (tgt := 1291) hx hb dL_law_421 (by decide) (fun hc => ?_) (fun hc => ?_)
        · replace hs := q_t hc hs
          exact hK6 _ hs _ _ hw _ (lv_sub hl [0, 1, 2, 3] rfl)
        · replace hs := q_f hc hs
          refine lv_iconst (pc := 424) (v := (iI 0)) hx hb dL_law_424 rfl ?_
          exact q_lawret hret dL_law_425 hw hs
      replace hs := q_f hc7 hs
      by_cases hc8 : (v4 &&& (iI 63)) = iI 8
      · replace hs := q_t hc8 hs
        refine lv_tableIn (pc := 33) (off := 393) (tgt := 426) hx hb dL_law_33 (by rw [hc8]; decide) (by rw [hc8]; decide) (by rw [hc8]; decide) (by decide) ?_
        refine lv_aload_n (pc := 426) hx hb dL_law_426 rfl (lv_at hl 1 rfl) ?_
        refine lv_aload_n (pc := 427) hx hb dL_law_427 rfl (lv_at hl 0 rfl) ?_
        refine lv_iload_n (pc := 428) hx hb dL_law_428 rfl (lv_at hl 3 rfl) ?_
        refine lv_iconst (pc := 429) (v := (iI 1)) hx hb dL_law_429 rfl ?_
        refine lv_iadd (pc := 430) hx hb dL_law_430 ?_
        refine q_sld (pc := 431) hx hb hX hbl hbA hw dL_law_431 hs (fun v64 hs => ?_)
        refine lv_aload_n (pc := 432) hx hb dL_law_432 rfl (lv_at hl 0 rfl) ?_
        refine lv_iload_n (pc := 433) hx hb dL_law_433 rfl (lv_at hl 3 rfl) ?_
        refine lv_iconst (pc := 434) (v := (iI 2)) hx hb dL_law_434 rfl ?_
        refine lv_iadd (pc := 435) hx hb dL_law_435 ?_
        refine q_sld (pc := 436) hx hb hX hbl hbA hw dL_law_436 hs (fun v65 hs => ?_)
        obtain ⟨v66, h67, ev, hs⟩ := q_cal2 hs
        refine q_callV (pc := 437) (q := 0) (As := [.int v64, .int v65]) (rest := []) (rs := [.int v66]) hx hb hml hl.1 hts hown hK hSt hN hw (c_X10_way l G v64 v65 h2 v66 h67 ev) rfl rfl cv_L_49 (rm_law hcl hsl (by decide)) rfl (Nat.le_of_ble_eq_true rfl) rfl rfl dL_law_437 (fun H locs hw => ?_)
        refine lv_aload_n (pc := 440) hx hb dL_law_440 rfl (lv_at hl 2 rfl) ?_
        refine lv_aload_n (pc := 441) hx hb dL_law_441 rfl (lv_at hl 0 rfl) ?_
        refine lv_iload_n (pc := 442) hx hb dL_law_442 rfl (lv_at hl 3 rfl) ?_
        refine lv_iconst (pc := 443) (v := (iI 1)) hx hb dL_law_443 rfl ?_
        refine lv_iadd (pc := 444) hx hb dL_law_444 ?_
        refine q_sld (pc := 445) hx hb hX hbl hbA hw dL_law_445 hs (fun v68 hs => ?_)
        refine lv_aload_n (pc := 446) hx hb dL_law_446 rfl (lv_at hl 0 rfl) ?_
        refine lv_iload_n (pc := 447) hx hb dL_law_447 rfl (lv_at hl 3 rfl) ?_
        refine lv_iconst (pc := 448) (v := (iI 2)) hx hb dL_law_448 rfl ?_
        refine lv_iadd (pc := 449) hx hb dL_law_449 ?_
        refine q_sld (pc := 450) hx hb hX hbl hbA hw dL_law_450 hs (fun v69 hs => ?_)
        obtain ⟨v70, h71, ev, hs⟩ := q_cal2 hs
        refine q_callV (pc := 451) (q := 72) (As := [.int v68, .int v69]) (rest := [.int v66]) (rs := [.int v70, .int v66]) hx hb hml hl.1 hts hown hK hSt hN hw (c_X11_way l G v68 v69 h67 v70 h71 ev) rfl rfl cv_L_52 (rm_law hcl hsl (by decide)) rfl (Nat.le_of_ble_eq_true rfl) rfl rfl dL_law_451 (fun H locs hw => ?_)
        refine lv_icmp_eq (pc := 454) (tgt := 1291) hx hb dL_law_454 (by decide) (fun hc => ?_) (fun hc => ?_)
        · replace hs := q_t hc hs
          exact hK6 _ hs _ _ hw _ (lv_sub hl [0, 1, 2, 3] rfl)
        · replace hs := q_f hc hs
          refine lv_iconst (pc := 457) (v := (iI 0)) hx hb dL_law_457 rfl ?_
          exact q_lawret hret dL_law_458 hw hs
      replace hs := q_f hc8 hs
      by_cases hc9 : (v4 &&& (iI 63)) = iI 9
      · replace hs := q_t hc9 hs
        refine lv_tableIn (pc := 33) (off := 426) (tgt := 459) hx hb dL_law_33 (by rw [hc9]; decide) (by rw [hc9]; decide) (by rw [hc9]; decide) (by decide) ?_
        refine lv_aload_n (pc := 459) hx hb dL_law_459 rfl (lv_at hl 1 rfl) ?_
        refine lv_aload_n (pc := 460) hx hb dL_law_460 rfl (lv_at hl 0 rfl) ?_
        refine lv_iload_n (pc := 461) hx hb dL_law_461 rfl (lv_at hl 3 rfl) ?_
        refine lv_iconst (pc := 462) (v := (iI 1)) hx hb dL_law_462 rfl ?_
        refine lv_iadd (pc := 463) hx hb dL_law_463 ?_
        refine q_sld (pc := 464) hx hb hX hbl hbA hw dL_law_464 hs (fun v72 hs => ?_)
        obtain ⟨v73, h74, ev, hs⟩ := q_cal2 hs
        refine q_callV (pc := 465) (q := 0) (As := [.int v72]) (rest := []) (rs := [.int v73]) hx hb hml hl.1 hts hown hK hSt hN hw (c_X10_undo l G v72 h2 v73 h74 ev) rfl rfl cv_L_53 (rm_law hcl hsl (by decide)) rfl (Nat.le_of_ble_eq_true rfl) rfl rfl dL_law_465 (fun H locs hw => ?_)
        refine lv_aload_n (pc := 468) hx hb dL_law_468 rfl (lv_at hl 2 rfl) ?_
        refine lv_aload_n (pc := 469) hx hb dL_law_469 rfl (lv_at hl 0 rfl) ?_
        refine lv_iload_n (pc := 470) hx hb dL_law_470 rfl (lv_at hl 3 rfl) ?_
        refine lv_iconst (pc := 471) (v := (iI 1)) hx hb dL_law_471 rfl ?_
        refine lv_iadd (pc := 472) hx hb dL_law_472 ?_
        refine q_sld (pc := 473) hx hb hX hbl hbA hw dL_law_473 hs (fun v75 hs => ?_)
        obtain ⟨v76, h77, ev, hs⟩ := q_cal2 hs
        refine q_callV (pc := 474) (q := 72) (As := [.int v75]) (rest := [.int v73]) (rs := [.int v76, .int v73]) hx hb hml hl.1 hts hown hK hSt hN hw (c_X11_undo l G v75 h74 v76 h77 ev) rfl rfl cv_L_56 (rm_law hcl hsl (by decide)) rfl (Nat.le_of_ble_eq_true rfl) rfl rfl dL_law_474 (fun H locs hw => ?_)
        refine lv_icmp_eq (pc := 477) (tgt := 1291) hx hb dL_law_477 (by decide) (fun hc => ?_) (fun hc => ?_)
        · replace hs := q_t hc hs
          exact hK6 _ hs _ _ hw _ (lv_sub hl [0, 1, 2, 3] rfl)
        · replace hs := q_f hc hs
          refine lv_iconst (pc := 480) (v := (iI 0)) hx hb dL_law_480 rfl ?_
          exact q_lawret hret dL_law_481 hw hs
      replace hs := q_f hc9 hs
      by_cases hc10 : (v4 &&& (iI 63)) = iI 10
      · replace hs := q_t hc10 hs
        refine lv_tableIn (pc := 33) (off := 449) (tgt := 482) hx hb dL_law_33 (by rw [hc10]; decide) (by rw [hc10]; decide) (by rw [hc10]; decide) (by decide) ?_
        refine lv_aload_n (pc := 482) hx hb dL_law_482 rfl (lv_at hl 1 rfl) ?_
        refine lv_aload_n (pc := 483) hx hb dL_law_483 rfl (lv_at hl 0 rfl) ?_
        refine lv_iload_n (pc := 484) hx hb dL_law_484 rfl (lv_at hl 3 rfl) ?_
        refine lv_iconst (pc := 485) (v := (iI 1)) hx hb dL_law_485 rfl ?_
        refine lv_iadd (pc := 486) hx hb dL_law_486 ?_
        refine q_sld (pc := 487) hx hb hX hbl hbA hw dL_law_487 hs (fun v78 hs => ?_)
        refine lv_i2l (pc := 488) hx hb dL_law_488 rfl ?_
        refine lv_bipush (pc := 489) (v := (iI 32)) hx hb dL_law_489 (by decide) ?_
        refine lv_lshl (pc := 491) (v := (shlL (Int32.toInt64 v78) (iI 32))) hx hb dL_law_491 rfl ?_
        refine lv_aload_n (pc := 492) hx hb dL_law_492 rfl (lv_at hl 0 rfl) ?_
        refine lv_iload_n (pc := 493) hx hb dL_law_493 rfl (lv_at hl 3 rfl) ?_
        refine lv_iconst (pc := 494) (v := (iI 2)) hx hb dL_law_494 rfl ?_
        refine lv_iadd (pc := 495) hx hb dL_law_495 ?_
        refine q_sld (pc := 496) hx hb hX hbl hbA hw dL_law_496 hs (fun v79 hs => ?_)
        refine lv_i2l (pc := 497) hx hb dL_law_497 rfl ?_
        refine lv_ldc2 (pc := 498) (v := (iL 4294967295)) hx hb hown (hts _ kl_L_57) dL_law_498 ?_
        refine lv_land (pc := 501) hx hb dL_law_501 ?_
        refine lv_lor (pc := 502) hx hb dL_law_502 ?_
        refine lv_aload_n (pc := 503) hx hb dL_law_503 rfl (lv_at hl 0 rfl) ?_
        refine lv_iload_n (pc := 504) hx hb dL_law_504 rfl (lv_at hl 3 rfl) ?_
        refine lv_iconst (pc := 505) (v := (iI 3)) hx hb dL_law_505 rfl ?_
        refine lv_iadd (pc := 506) hx hb dL_law_506 ?_
        refine q_sld (pc := 507) hx hb hX hbl hbA hw dL_law_507 hs (fun v80 hs => ?_)
        obtain ⟨v81, h82, ev, hs⟩ := q_cal2 hs
        refine q_callV (pc := 508) (q := 0) (As := [.long ((shlL (Int32.toInt64 v78) (iI 32)) ||| ((Int32.toInt64 v79) &&& (iL 4294967295))), .int v80]) (rest := []) (rs := [.int v81]) hx hb hml hl.1 hts hown hK hSt hN hw (c_X10_feed l G ((shlL (Int32.toInt64 v78) (iI 32)) ||| ((Int32.toInt64 v79) &&& (iL 4294967295))) v80 h2 v81 h82 ev) rfl rfl cv_L_59 (rm_law hcl hsl (by decide)) rfl (Nat.le_of_ble_eq_true rfl) rfl rfl dL_law_508 (fun H locs hw => ?_)
        refine lv_aload_n (pc := 511) hx hb dL_law_511 rfl (lv_at hl 2 rfl) ?_
        refine lv_aload_n (pc := 512) hx hb dL_law_512 rfl (lv_at hl 0 rfl) ?_
        refine lv_iload_n (pc := 513) hx hb dL_law_513 rfl (lv_at hl 3 rfl) ?_
        refine lv_iconst (pc := 514) (v := (iI 1)) hx hb dL_law_514 rfl ?_
        refine lv_iadd (pc := 515) hx hb dL_law_515 ?_
        refine q_sld (pc := 516) hx hb hX hbl hbA hw dL_law_516 hs (fun v83 hs => ?_)
        refine lv_i2l (pc := 517) hx hb dL_law_517 rfl ?_
        refine lv_bipush (pc := 518) (v := (iI 32)) hx hb dL_law_518 (by decide) ?_
        refine lv_lshl (pc := 520) (v := (shlL (Int32.toInt64 v83) (iI 32))) hx hb dL_law_520 rfl ?_
        refine lv_aload_n (pc := 521) hx hb dL_law_521 rfl (lv_at hl 0 rfl) ?_
        refine lv_iload_n (pc := 522) hx hb dL_law_522 rfl (lv_at hl 3 rfl) ?_
        refine lv_iconst (pc := 523) (v := (iI 2)) hx hb dL_law_523 rfl ?_
        refine lv_iadd (pc := 524) hx hb dL_law_524 ?_
        refine q_sld (pc := 525) hx hb hX hbl hbA hw dL_law_525 hs (fun v84 hs => ?_)
        refine lv_i2l (pc := 526) hx hb dL_law_526 rfl ?_
        refine lv_ldc2 (pc := 527) (v := (iL 4294967295)) hx hb hown (hts _ kl_L_57) dL_law_527 ?_
        refine lv_land (pc := 530) hx hb dL_law_530 ?_
        refine lv_lor (pc := 531) hx hb dL_law_531 ?_
        refine lv_aload_n (pc := 532) hx hb dL_law_532 rfl (lv_at hl 0 rfl) ?_
        refine lv_iload_n (pc := 533) hx hb dL_law_533 rfl (lv_at hl 3 rfl) ?_
        refine lv_iconst (pc := 534) (v := (iI 3)) hx hb dL_law_534 rfl ?_
        refine lv_iadd (pc := 535) hx hb dL_law_535 ?_
        refine q_sld (pc := 536) hx hb hX hbl hbA hw dL_law_536 hs (fun v85 hs => ?_)
        obtain ⟨v86, h87, ev, hs⟩ := q_cal2 hs
        refine q_callV (pc := 537) (q := 72) (As := [.long ((shlL (Int32.toInt64 v83) (iI 32)) ||| ((Int32.toInt64 v84) &&& (iL 4294967295))), .int v85]) (rest := [.int v81]) (rs := [.int v86, .int v81]) hx hb hml hl.1 hts hown hK hSt hN hw (c_X11_feed l G ((shlL (Int32.toInt64 v83) (iI 32)) ||| ((Int32.toInt64 v84) &&& (iL 4294967295))) v85 h82 v86 h87 ev) rfl rfl cv_L_63 (rm_law hcl hsl (by decide)) rfl (Nat.le_of_ble_eq_true rfl) rfl rfl dL_law_537 (fun H locs hw => ?_)
        refine lv_icmp_eq (pc := 540) (tgt := 1291) hx hb dL_law_540 (by decide) (fun hc => ?_) (fun hc => ?_)
        · replace hs := q_t hc hs
          exact hK6 _ hs _ _ hw _ (lv_sub hl [0, 1, 2, 3] rfl)
        · replace hs := q_f hc hs
          refine lv_iconst (pc := 543) (v := (iI 0)) hx hb dL_law_543 rfl ?_
          exact q_lawret hret dL_law_544 hw hs
      replace hs := q_f hc10 hs
      by_cases hc11 : (v4 &&& (iI 63)) = iI 11
      · replace hs := q_t hc11 hs
        refine lv_tableIn (pc := 33) (off := 512) (tgt := 545) hx hb dL_law_33 (by rw [hc11]; decide) (by rw [hc11]; decide) (by rw [hc11]; decide) (by decide) ?_
        refine lv_aload_n (pc := 545) hx hb dL_law_545 rfl (lv_at hl 1 rfl) ?_
        refine lv_aload_n (pc := 546) hx hb dL_law_546 rfl (lv_at hl 0 rfl) ?_
        refine lv_iload_n (pc := 547) hx hb dL_law_547 rfl (lv_at hl 3 rfl) ?_
        refine lv_iconst (pc := 548) (v := (iI 1)) hx hb dL_law_548 rfl ?_
        refine lv_iadd (pc := 549) hx hb dL_law_549 ?_
        refine q_sld (pc := 550) hx hb hX hbl hbA hw dL_law_550 hs (fun v88 hs => ?_)
        obtain ⟨v89, h90, ev, hs⟩ := q_cal2 hs
        refine q_callV (pc := 551) (q := 0) (As := [.int v88]) (rest := []) (rs := [.int v89]) hx hb hml hl.1 hts hown hK hSt hN hw (c_X10_text l G v88 h2 v89 h90 ev) rfl rfl cv_L_64 (rm_law hcl hsl (by decide)) rfl (Nat.le_of_ble_eq_true rfl) rfl rfl dL_law_551 (fun H locs hw => ?_)
        refine lv_aload_n (pc := 554) hx hb dL_law_554 rfl (lv_at hl 2 rfl) ?_
        refine lv_aload_n (pc := 555) hx hb dL_law_555 rfl (lv_at hl 0 rfl) ?_
        refine lv_iload_n (pc := 556) hx hb dL_law_556 rfl (lv_at hl 3 rfl) ?_
        refine lv_iconst (pc := 557) (v := (iI 1)) hx hb dL_law_557 rfl ?_
        refine lv_iadd (pc := 558) hx hb dL_law_558 ?_
        refine q_sld (pc := 559) hx hb hX hbl hbA hw dL_law_559 hs (fun v91 hs => ?_)
        obtain ⟨v92, h93, ev, hs⟩ := q_cal2 hs
        refine q_callV (pc := 560) (q := 72) (As := [.int v91]) (rest := [.int v89]) (rs := [.int v92, .int v89]) hx hb hml hl.1 hts hown hK hSt hN hw (c_X11_text l G v91 h90 v92 h93 ev) rfl rfl cv_L_67 (rm_law hcl hsl (by decide)) rfl (Nat.le_of_ble_eq_true rfl) rfl rfl dL_law_560 (fun H locs hw => ?_)
        refine lv_icmp_eq (pc := 563) (tgt := 1291) hx hb dL_law_563 (by decide) (fun hc => ?_) (fun hc => ?_)
        · replace hs := q_t hc hs
          exact hK6 _ hs _ _ hw _ (lv_sub hl [0, 1, 2, 3] rfl)
        · replace hs := q_f hc hs
          refine lv_iconst (pc := 566) (v := (iI 0)) hx hb dL_law_566 rfl ?_
          exact q_lawret hret dL_law_567 hw hs
      replace hs := q_f hc11 hs
      by_cases hc12 : (v4 &&& (iI 63)) = iI 12
      · replace hs := q_t hc12 hs
        refine lv_tableIn (pc := 33) (off := 535) (tgt := 568) hx hb dL_law_33 (by rw [hc12]; decide) (by rw [hc12]; decide) (by rw [hc12]; decide) (by decide) ?_
        refine lv_aload_n (pc := 568) hx hb dL_law_568 rfl (lv_at hl 1 rfl) ?_
        refine lv_aload_n (pc := 569) hx hb dL_law_569 rfl (lv_at hl 0 rfl) ?_
        refine lv_iload_n (pc := 570) hx hb dL_law_570 rfl (lv_at hl 3 rfl) ?_
        refine lv_iconst (pc := 571) (v := (iI 1)) hx hb dL_law_571 rfl ?_
        refine lv_iadd (pc := 572) hx hb dL_law_572 ?_
        refine q_sld (pc := 573) hx hb hX hbl hbA hw dL_law_573 hs (fun v94 hs => ?_)
        refine lv_aload_n (pc := 574) hx hb dL_law_574 rfl (lv_at hl 0 rfl) ?_
        refine lv_iload_n (pc := 575) hx hb dL_law_575 rfl (lv_at hl 3 rfl) ?_
        refine lv_iconst (pc := 576) (v := (iI 2)) hx hb dL_law_576 rfl ?_
        refine lv_iadd (pc := 577) hx hb dL_law_577 ?_
        refine q_sld (pc := 578) hx hb hX hbl hbA hw dL_law_578 hs (fun v95 hs => ?_)
        refine lv_aload_n (pc := 579) hx hb dL_law_579 rfl (lv_at hl 0 rfl) ?_
        refine lv_iload_n (pc := 580) hx hb dL_law_580 rfl (lv_at hl 3 rfl) ?_
        refine lv_iconst (pc := 581) (v := (iI 3)) hx hb dL_law_581 rfl ?_
        refine lv_iadd (pc := 582) hx hb dL_law_582 ?_
        refine q_sld (pc := 583) hx hb hX hbl hbA hw dL_law_583 hs (fun v96 hs => ?_)
        refine lv_aload_n (pc := 584) hx hb dL_law_584 rfl (lv_at hl 0 rfl) ?_
        refine lv_iload_n (pc := 585) hx hb dL_law_585 rfl (lv_at hl 3 rfl) ?_
        refine lv_iconst (pc := 586) (v := (iI 4)) hx hb dL_law_586 rfl ?_
        refine lv_iadd (pc := 587) hx hb dL_law_587 ?_
        refine q_sld (pc := 588) hx hb hX hbl hbA hw dL_law_588 hs (fun v97 hs => ?_)
        obtain ⟨v98, h99, ev, hs⟩ := q_cal2 hs
        refine q_callV (pc := 589) (q := 0) (As := [.int v94, .int v95, .int v96, .int v97]) (rest := []) (rs := [.int v98]) hx hb hml hl.1 hts hown hK hSt hN hw (c_X10_law l G v94 v95 v96 v97 h2 v98 h99 ev) rfl rfl cv_L_68 (rm_law hcl hsl (by decide)) rfl (Nat.le_of_ble_eq_true rfl) rfl rfl dL_law_589 (fun H locs hw => ?_)
        refine lv_aload_n (pc := 592) hx hb dL_law_592 rfl (lv_at hl 2 rfl) ?_
        refine lv_aload_n (pc := 593) hx hb dL_law_593 rfl (lv_at hl 0 rfl) ?_
        refine lv_iload_n (pc := 594) hx hb dL_law_594 rfl (lv_at hl 3 rfl) ?_
        refine lv_iconst (pc := 595) (v := (iI 1)) hx hb dL_law_595 rfl ?_
        refine lv_iadd (pc := 596) hx hb dL_law_596 ?_
        refine q_sld (pc := 597) hx hb hX hbl hbA hw dL_law_597 hs (fun v100 hs => ?_)
        refine lv_aload_n (pc := 598) hx hb dL_law_598 rfl (lv_at hl 0 rfl) ?_
        refine lv_iload_n (pc := 599) hx hb dL_law_599 rfl (lv_at hl 3 rfl) ?_
        refine lv_iconst (pc := 600) (v := (iI 2)) hx hb dL_law_600 rfl ?_
        refine lv_iadd (pc := 601) hx hb dL_law_601 ?_
        refine q_sld (pc := 602) hx hb hX hbl hbA hw dL_law_602 hs (fun v101 hs => ?_)
        refine lv_aload_n (pc := 603) hx hb dL_law_603 rfl (lv_at hl 0 rfl) ?_
        refine lv_iload_n (pc := 604) hx hb dL_law_604 rfl (lv_at hl 3 rfl) ?_
        refine lv_iconst (pc := 605) (v := (iI 3)) hx hb dL_law_605 rfl ?_
        refine lv_iadd (pc := 606) hx hb dL_law_606 ?_
        refine q_sld (pc := 607) hx hb hX hbl hbA hw dL_law_607 hs (fun v102 hs => ?_)
        refine lv_aload_n (pc := 608) hx hb dL_law_608 rfl (lv_at hl 0 rfl) ?_
        refine lv_iload_n (pc := 609) hx hb dL_law_609 rfl (lv_at hl 3 rfl) ?_
        refine lv_iconst (pc := 610) (v := (iI 4)) hx hb dL_law_610 rfl ?_
        refine lv_iadd (pc := 611) hx hb dL_law_611 ?_
        refine q_sld (pc := 612) hx hb hX hbl hbA hw dL_law_612 hs (fun v103 hs => ?_)
        obtain ⟨v104, h105, ev, hs⟩ := q_cal2 hs
        refine q_callV (pc := 613) (q := 72) (As := [.int v100, .int v101, .int v102, .int v103]) (rest := [.int v98]) (rs := [.int v104, .int v98]) hx hb hml hl.1 hts hown hK hSt hN hw (c_X11_law l G v100 v101 v102 v103 h99 v104 h105 ev) rfl rfl cv_L_72 (rm_law hcl hsl (by decide)) rfl (Nat.le_of_ble_eq_true rfl) rfl rfl dL_law_613 (fun H locs hw => ?_)
        refine lv_icmp_eq (pc := 616) (tgt := 1291) hx hb dL_law_616 (by decide) (fun hc => ?_) (fun hc => ?_)
        · replace hs := q_t hc hs
          exact hK6 _ hs _ _ hw _ (lv_sub hl [0, 1, 2, 3] rfl)
        · replace hs := q_f hc hs
          refine lv_iconst (pc := 619) (v := (iI 0)) hx hb dL_law_619 rfl ?_
          exact q_lawret hret dL_law_620 hw hs
      replace hs := q_f hc12 hs
      by_cases hc13 : (v4 &&& (iI 63)) = iI 13
      · replace hs := q_t hc13 hs
        refine lv_tableIn (pc := 33) (off := 588) (tgt := 621) hx hb dL_law_33 (by rw [hc13]; decide) (by rw [hc13]; decide) (by rw [hc13]; decide) (by decide) ?_
        refine lv_aload_n (pc := 621) hx hb dL_law_621 rfl (lv_at hl 1 rfl) ?_
        refine lv_aload_n (pc := 622) hx hb dL_law_622 rfl (lv_at hl 0 rfl) ?_
        refine lv_iload_n (pc := 623) hx hb dL_law_623 rfl (lv_at hl 3 rfl) ?_
        refine lv_iconst (pc := 624) (v := (iI 1)) hx hb dL_law_624 rfl ?_
        refine lv_iadd (pc := 625) hx hb dL_law_625 ?_
        refine q_sld (pc := 626) hx hb hX hbl hbA hw dL_law_626 hs (fun v106 hs => ?_)
        obtain ⟨v107, h108, ev, hs⟩ := q_cal2 hs
        refine q_callV (pc := 627) (q := 0) (As := [.int v106]) (rest := []) (rs := [.int v107]) hx hb hml hl.1 hts hown hK hSt hN hw (c_X10_round l G v106 h2 v107 h108 ev) rfl rfl cv_L_73 (rm_law hcl hsl (by decide)) rfl (Nat.le_of_ble_eq_true rfl) rfl rfl dL_law_627 (fun H locs hw => ?_)
        refine lv_aload_n (pc := 630) hx hb dL_law_630 rfl (lv_at hl 2 rfl) ?_
        refine lv_aload_n (pc := 631) hx hb dL_law_631 rfl (lv_at hl 0 rfl) ?_
        refine lv_iload_n (pc := 632) hx hb dL_law_632 rfl (lv_at hl 3 rfl) ?_
        refine lv_iconst (pc := 633) (v := (iI 1)) hx hb dL_law_633 rfl ?_
        refine lv_iadd (pc := 634) hx hb dL_law_634 ?_
        refine q_sld (pc := 635) hx hb hX hbl hbA hw dL_law_635 hs (fun v109 hs => ?_)
        obtain ⟨v110, h111, ev, hs⟩ := q_cal2 hs
        refine q_callV (pc := 636) (q := 72) (As := [.int v109]) (rest := [.int v107]) (rs := [.int v110, .int v107]) hx hb hml hl.1 hts hown hK hSt hN hw (c_X11_round l G v109 h108 v110 h111 ev) rfl rfl cv_L_76 (rm_law hcl hsl (by decide)) rfl (Nat.le_of_ble_eq_true rfl) rfl rfl dL_law_636 (fun H locs hw => ?_)
        refine lv_icmp_eq (pc := 639) (tgt := 1291) hx hb dL_law_639 (by decide) (fun hc => ?_) (fun hc => ?_)
        · replace hs := q_t hc hs
          exact hK6 _ hs _ _ hw _ (lv_sub hl [0, 1, 2, 3] rfl)
        · replace hs := q_f hc hs
          refine lv_iconst (pc := 642) (v := (iI 0)) hx hb dL_law_642 rfl ?_
          exact q_lawret hret dL_law_643 hw hs
      replace hs := q_f hc13 hs
      by_cases hc14 : (v4 &&& (iI 63)) = iI 14
      · replace hs := q_t hc14 hs
        refine lv_tableIn (pc := 33) (off := 611) (tgt := 644) hx hb dL_law_33 (by rw [hc14]; decide) (by rw [hc14]; decide) (by rw [hc14]; decide) (by decide) ?_
        refine lv_aload_n (pc := 644) hx hb dL_law_644 rfl (lv_at hl 1 rfl) ?_
        refine lv_aload_n (pc := 645) hx hb dL_law_645 rfl (lv_at hl 0 rfl) ?_
        refine lv_iload_n (pc := 646) hx hb dL_law_646 rfl (lv_at hl 3 rfl) ?_
        refine lv_iconst (pc := 647) (v := (iI 1)) hx hb dL_law_647 rfl ?_
        refine lv_iadd (pc := 648) hx hb dL_law_648 ?_
        refine q_sld (pc := 649) hx hb hX hbl hbA hw dL_law_649 hs (fun v112 hs => ?_)
        obtain ⟨v113, h114, ev, hs⟩ := q_cal2 hs
        refine q_callV (pc := 650) (q := 0) (As := [.int v112]) (rest := []) (rs := [.int v113]) hx hb hml hl.1 hts hown hK hSt hN hw (c_X10_back l G v112 h2 v113 h114 ev) rfl rfl cv_L_77 (rm_law hcl hsl (by decide)) rfl (Nat.le_of_ble_eq_true rfl) rfl rfl dL_law_650 (fun H locs hw => ?_)
        refine lv_aload_n (pc := 653) hx hb dL_law_653 rfl (lv_at hl 2 rfl) ?_
        refine lv_aload_n (pc := 654) hx hb dL_law_654 rfl (lv_at hl 0 rfl) ?_
        refine lv_iload_n (pc := 655) hx hb dL_law_655 rfl (lv_at hl 3 rfl) ?_
        refine lv_iconst (pc := 656) (v := (iI 1)) hx hb dL_law_656 rfl ?_
        refine lv_iadd (pc := 657) hx hb dL_law_657 ?_
        refine q_sld (pc := 658) hx hb hX hbl hbA hw dL_law_658 hs (fun v115 hs => ?_)
        obtain ⟨v116, h117, ev, hs⟩ := q_cal2 hs
        refine q_callV (pc := 659) (q := 72) (As := [.int v115]) (rest := [.int v113]) (rs := [.int v116, .int v113]) hx hb hml hl.1 hts hown hK hSt hN hw (c_X11_back l G v115 h114 v116 h117 ev) rfl rfl cv_L_80 (rm_law hcl hsl (by decide)) rfl (Nat.le_of_ble_eq_true rfl) rfl rfl dL_law_659 (fun H locs hw => ?_)
        refine lv_icmp_eq (pc := 662) (tgt := 1291) hx hb dL_law_662 (by decide) (fun hc => ?_) (fun hc => ?_)
        · replace hs := q_t hc hs
          exact hK6 _ hs _ _ hw _ (lv_sub hl [0, 1, 2, 3] rfl)
        · replace hs := q_f hc hs
          refine lv_iconst (pc := 665) (v := (iI 0)) hx hb dL_law_665 rfl ?_
          exact q_lawret hret dL_law_666 hw hs
      replace hs := q_f hc14 hs
      by_cases hc15 : (v4 &&& (iI 63)) = iI 15
      · replace hs := q_t hc15 hs
        refine lv_tableIn (pc := 33) (off := 634) (tgt := 667) hx hb dL_law_33 (by rw [hc15]; decide) (by rw [hc15]; decide) (by rw [hc15]; decide) (by decide) ?_
        refine lv_aload_n (pc := 667) hx hb dL_law_667 rfl (lv_at hl 1 rfl) ?_
        refine lv_aload_n (pc := 668) hx hb dL_law_668 rfl (lv_at hl 0 rfl) ?_
        refine lv_iload_n (pc := 669) hx hb dL_law_669 rfl (lv_at hl 3 rfl) ?_
        refine lv_iconst (pc := 670) (v := (iI 1)) hx hb dL_law_670 rfl ?_
        refine lv_iadd (pc := 671) hx hb dL_law_671 ?_
        refine q_sld (pc := 672) hx hb hX hbl hbA hw dL_law_672 hs (fun v118 hs => ?_)
        refine lv_aload_n (pc := 673) hx hb dL_law_673 rfl (lv_at hl 0 rfl) ?_
        refine lv_iload_n (pc := 674) hx hb dL_law_674 rfl (lv_at hl 3 rfl) ?_
        refine lv_iconst (pc := 675) (v := (iI 2)) hx hb dL_law_675 rfl ?_
        refine lv_iadd (pc := 676) hx hb dL_law_676 ?_
        refine q_sld (pc := 677) hx hb hX hbl hbA hw dL_law_677 hs (fun v119 hs => ?_)
        refine lv_aload_n (pc := 678) hx hb dL_law_678 rfl (lv_at hl 0 rfl) ?_
        refine lv_iload_n (pc := 679) hx hb dL_law_679 rfl (lv_at hl 3 rfl) ?_
        refine lv_iconst (pc := 680) (v := (iI 3)) hx hb dL_law_680 rfl ?_
        refine lv_iadd (pc := 681) hx hb dL_law_681 ?_
        refine q_sld (pc := 682) hx hb hX hbl hbA hw dL_law_682 hs (fun v120 hs => ?_)
        obtain ⟨v121, h122, ev, hs⟩ := q_cal2 hs
        refine q_callV (pc := 683) (q := 0) (As := [.int v118, .int v119, .int v120]) (rest := []) (rs := [.int v121]) hx hb hml hl.1 hts hown hK hSt hN hw (c_X10_throne l G v118 v119 v120 h2 v121 h122 ev) rfl rfl cv_L_81 (rm_law hcl hsl (by decide)) rfl (Nat.le_of_ble_eq_true rfl) rfl rfl dL_law_683 (fun H locs hw => ?_)
        refine lv_aload_n (pc := 686) hx hb dL_law_686 rfl (lv_at hl 2 rfl) ?_
        refine lv_aload_n (pc := 687) hx hb dL_law_687 rfl (lv_at hl 0 rfl) ?_
        refine lv_iload_n (pc := 688) hx hb dL_law_688 rfl (lv_at hl 3 rfl) ?_
        refine lv_iconst (pc := 689) (v := (iI 1)) hx hb dL_law_689 rfl ?_
        refine lv_iadd (pc := 690) hx hb dL_law_690 ?_
        refine q_sld (pc := 691) hx hb hX hbl hbA hw dL_law_691 hs (fun v123 hs => ?_)
        refine lv_aload_n (pc := 692) hx hb dL_law_692 rfl (lv_at hl 0 rfl) ?_
        refine lv_iload_n (pc := 693) hx hb dL_law_693 rfl (lv_at hl 3 rfl) ?_
        refine lv_iconst (pc := 694) (v := (iI 2)) hx hb dL_law_694 rfl ?_
        refine lv_iadd (pc := 695) hx hb dL_law_695 ?_
        refine q_sld (pc := 696) hx hb hX hbl hbA hw dL_law_696 hs (fun v124 hs => ?_)
        refine lv_aload_n (pc := 697) hx hb dL_law_697 rfl (lv_at hl 0 rfl) ?_
        refine lv_iload_n (pc := 698) hx hb dL_law_698 rfl (lv_at hl 3 rfl) ?_
        refine lv_iconst (pc := 699) (v := (iI 3)) hx hb dL_law_699 rfl ?_
        refine lv_iadd (pc := 700) hx hb dL_law_700 ?_
        refine q_sld (pc := 701) hx hb hX hbl hbA hw dL_law_701 hs (fun v125 hs => ?_)
        obtain ⟨v126, h127, ev, hs⟩ := q_cal2 hs
        refine q_callV (pc := 702) (q := 72) (As := [.int v123, .int v124, .int v125]) (rest := [.int v121]) (rs := [.int v126, .int v121]) hx hb hml hl.1 hts hown hK hSt hN hw (c_X11_throne l G v123 v124 v125 h122 v126 h127 ev) rfl rfl cv_L_84 (rm_law hcl hsl (by decide)) rfl (Nat.le_of_ble_eq_true rfl) rfl rfl dL_law_702 (fun H locs hw => ?_)
        refine lv_icmp_eq (pc := 705) (tgt := 1291) hx hb dL_law_705 (by decide) (fun hc => ?_) (fun hc => ?_)
        · replace hs := q_t hc hs
          exact hK6 _ hs _ _ hw _ (lv_sub hl [0, 1, 2, 3] rfl)
        · replace hs := q_f hc hs
          refine lv_iconst (pc := 708) (v := (iI 0)) hx hb dL_law_708 rfl ?_
          exact q_lawret hret dL_law_709 hw hs
      replace hs := q_f hc15 hs
      by_cases hc16 : (v4 &&& (iI 63)) = iI 16
      · replace hs := q_t hc16 hs
        refine lv_tableIn (pc := 33) (off := 677) (tgt := 710) hx hb dL_law_33 (by rw [hc16]; decide) (by rw [hc16]; decide) (by rw [hc16]; decide) (by decide) ?_
        refine lv_aload_n (pc := 710) hx hb dL_law_710 rfl (lv_at hl 1 rfl) ?_
        obtain ⟨v128, h129, ev, hs⟩ := q_cal2 hs
        refine q_callV (pc := 711) (q := 0) (As := []) (rest := []) (rs := [.int v128]) hx hb hml hl.1 hts hown hK hSt hN hw (c_X10_had l G h2 v128 h129 ev) rfl rfl cv_L_85 (rm_law hcl hsl (by decide)) rfl (Nat.le_of_ble_eq_true rfl) rfl rfl dL_law_711 (fun H locs hw => ?_)
        refine lv_aload_n (pc := 714) hx hb dL_law_714 rfl (lv_at hl 2 rfl) ?_
        obtain ⟨v130, h131, ev, hs⟩ := q_cal2 hs
        refine q_callV (pc := 715) (q := 72) (As := []) (rest := [.int v128]) (rs := [.int v130, .int v128]) hx hb hml hl.1 hts hown hK hSt hN hw (c_X11_had l G h129 v130 h131 ev) rfl rfl cv_L_88 (rm_law hcl hsl (by decide)) rfl (Nat.le_of_ble_eq_true rfl) rfl rfl dL_law_715 (fun H locs hw => ?_)
        refine lv_icmp_eq (pc := 718) (tgt := 1291) hx hb dL_law_718 (by decide) (fun hc => ?_) (fun hc => ?_)
        · replace hs := q_t hc hs
          exact hK6 _ hs _ _ hw _ (lv_sub hl [0, 1, 2, 3] rfl)
        · replace hs := q_f hc hs
          refine lv_iconst (pc := 721) (v := (iI 0)) hx hb dL_law_721 rfl ?_
          exact q_lawret hret dL_law_722 hw hs
      replace hs := q_f hc16 hs
      by_cases hc17 : (v4 &&& (iI 63)) = iI 17
      · replace hs := q_t hc17 hs
        refine lv_tableIn (pc := 33) (off := 690) (tgt := 723) hx hb dL_law_33 (by rw [hc17]; decide) (by rw [hc17]; decide) (by rw [hc17]; decide) (by decide) ?_
        refine lv_aload_n (pc := 723) hx hb dL_law_723 rfl (lv_at hl 1 rfl) ?_
        refine lv_aload_n (pc := 724) hx hb dL_law_724 rfl (lv_at hl 0 rfl) ?_
        refine lv_iload_n (pc := 725) hx hb dL_law_725 rfl (lv_at hl 3 rfl) ?_
        refine lv_iconst (pc := 726) (v := (iI 1)) hx hb dL_law_726 rfl ?_
        refine lv_iadd (pc := 727) hx hb dL_law_727 ?_
        refine q_sld (pc := 728) hx hb hX hbl hbA hw dL_law_728 hs (fun v132 hs => ?_)
        refine lv_aload_n (pc := 729) hx hb dL_law_729 rfl (lv_at hl 0 rfl) ?_
        refine lv_iload_n (pc := 730) hx hb dL_law_730 rfl (lv_at hl 3 rfl) ?_
        refine lv_iconst (pc := 731) (v := (iI 2)) hx hb dL_law_731 rfl ?_
        refine lv_iadd (pc := 732) hx hb dL_law_732 ?_
        refine q_sld (pc := 733) hx hb hX hbl hbA hw dL_law_733 hs (fun v133 hs => ?_)
        refine lv_aload_n (pc := 734) hx hb dL_law_734 rfl (lv_at hl 0 rfl) ?_
        refine lv_iload_n (pc := 735) hx hb dL_law_735 rfl (lv_at hl 3 rfl) ?_
        refine lv_iconst (pc := 736) (v := (iI 3)) hx hb dL_law_736 rfl ?_
        refine lv_iadd (pc := 737) hx hb dL_law_737 ?_
        refine q_sld (pc := 738) hx hb hX hbl hbA hw dL_law_738 hs (fun v134 hs => ?_)
        refine lv_aload_n (pc := 739) hx hb dL_law_739 rfl (lv_at hl 0 rfl) ?_
        refine lv_iload_n (pc := 740) hx hb dL_law_740 rfl (lv_at hl 3 rfl) ?_
        refine lv_iconst (pc := 741) (v := (iI 4)) hx hb dL_law_741 rfl ?_
        refine lv_iadd (pc := 742) hx hb dL_law_742 ?_
        refine q_sld (pc := 743) hx hb hX hbl hbA hw dL_law_743 hs (fun v135 hs => ?_)
        obtain ⟨w136, h137, ev, hs⟩ := q_cal2 hs
        refine q_callV (pc := 744) (q := 0) (As := [.int v132, .int v133, .int v134, .int v135]) (rest := []) (rs := [.long w136]) hx hb hml hl.1 hts hown hK hSt hN hw (c_X10_odds l G v132 v133 v134 v135 h2 w136 h137 ev) rfl rfl cv_L_89 (rm_law hcl hsl (by decide)) rfl (Nat.le_of_ble_eq_true rfl) rfl rfl dL_law_744 (fun H locs hw => ?_)
        refine lv_aload_n (pc := 747) hx hb dL_law_747 rfl (lv_at hl 2 rfl) ?_
        refine lv_aload_n (pc := 748) hx hb dL_law_748 rfl (lv_at hl 0 rfl) ?_
        refine lv_iload_n (pc := 749) hx hb dL_law_749 rfl (lv_at hl 3 rfl) ?_
        refine lv_iconst (pc := 750) (v := (iI 1)) hx hb dL_law_750 rfl ?_
        refine lv_iadd (pc := 751) hx hb dL_law_751 ?_
        refine q_sld (pc := 752) hx hb hX hbl hbA hw dL_law_752 hs (fun v138 hs => ?_)
        refine lv_aload_n (pc := 753) hx hb dL_law_753 rfl (lv_at hl 0 rfl) ?_
        refine lv_iload_n (pc := 754) hx hb dL_law_754 rfl (lv_at hl 3 rfl) ?_
        refine lv_iconst (pc := 755) (v := (iI 2)) hx hb dL_law_755 rfl ?_
        refine lv_iadd (pc := 756) hx hb dL_law_756 ?_
        refine q_sld (pc := 757) hx hb hX hbl hbA hw dL_law_757 hs (fun v139 hs => ?_)
        refine lv_aload_n (pc := 758) hx hb dL_law_758 rfl (lv_at hl 0 rfl) ?_
        refine lv_iload_n (pc := 759) hx hb dL_law_759 rfl (lv_at hl 3 rfl) ?_
        refine lv_iconst (pc := 760) (v := (iI 3)) hx hb dL_law_760 rfl ?_
        refine lv_iadd (pc := 761) hx hb dL_law_761 ?_
        refine q_sld (pc := 762) hx hb hX hbl hbA hw dL_law_762 hs (fun v140 hs => ?_)
        refine lv_aload_n (pc := 763) hx hb dL_law_763 rfl (lv_at hl 0 rfl) ?_
        refine lv_iload_n (pc := 764) hx hb dL_law_764 rfl (lv_at hl 3 rfl) ?_
        refine lv_iconst (pc := 765) (v := (iI 4)) hx hb dL_law_765 rfl ?_
        refine lv_iadd (pc := 766) hx hb dL_law_766 ?_
        refine q_sld (pc := 767) hx hb hX hbl hbA hw dL_law_767 hs (fun v141 hs => ?_)
        obtain ⟨w142, h143, ev, hs⟩ := q_cal2 hs
        refine q_callV (pc := 768) (q := 72) (As := [.int v138, .int v139, .int v140, .int v141]) (rest := [.long w136]) (rs := [.long w142, .long w136]) hx hb hml hl.1 hts hown hK hSt hN hw (c_X11_odds l G v138 v139 v140 v141 h137 w142 h143 ev) rfl rfl cv_L_93 (rm_law hcl hsl (by decide)) rfl (Nat.le_of_ble_eq_true rfl) rfl rfl dL_law_768 (fun H locs hw => ?_)
        refine W.lcmp (pc := 771) hx hb dL_law_771 ?_
        refine lv_if_eq (pc := 772) (tgt := 1291) hx hb dL_law_772 (by decide) (fun hc => ?_) (fun hc => ?_)
        · replace hs := q_t hc hs
          exact hK6 _ hs _ _ hw _ (lv_sub hl [0, 1, 2, 3] rfl)
        · replace hs := q_f hc hs
          refine lv_iconst (pc := 775) (v := (iI 0)) hx hb dL_law_775 rfl ?_
          exact q_lawret hret dL_law_776 hw hs
      replace hs := q_f hc17 hs
      by_cases hc18 : (v4 &&& (iI 63)) = iI 18
      · replace hs := q_t hc18 hs
        refine lv_tableIn (pc := 33) (off := 744) (tgt := 777) hx hb dL_law_33 (by rw [hc18]; decide) (by rw [hc18]; decide) (by rw [hc18]; decide) (by decide) ?_
        refine lv_aload_n (pc := 777) hx hb dL_law_777 rfl (lv_at hl 1 rfl) ?_
        refine lv_aload_n (pc := 778) hx hb dL_law_778 rfl (lv_at hl 0 rfl) ?_
        refine lv_iload_n (pc := 779) hx hb dL_law_779 rfl (lv_at hl 3 rfl) ?_
        refine lv_iconst (pc := 780) (v := (iI 1)) hx hb dL_law_780 rfl ?_
        refine lv_iadd (pc := 781) hx hb dL_law_781 ?_
        refine q_sld (pc := 782) hx hb hX hbl hbA hw dL_law_782 hs (fun v144 hs => ?_)
        refine lv_aload_n (pc := 783) hx hb dL_law_783 rfl (lv_at hl 0 rfl) ?_
        refine lv_iload_n (pc := 784) hx hb dL_law_784 rfl (lv_at hl 3 rfl) ?_
        refine lv_iconst (pc := 785) (v := (iI 2)) hx hb dL_law_785 rfl ?_
        refine lv_iadd (pc := 786) hx hb dL_law_786 ?_
        refine q_sld (pc := 787) hx hb hX hbl hbA hw dL_law_787 hs (fun v145 hs => ?_)
        obtain ⟨v146, h147, ev, hs⟩ := q_cal2 hs
        refine q_callV (pc := 788) (q := 0) (As := [.int v144, .int v145]) (rest := []) (rs := [.int v146]) hx hb hml hl.1 hts hown hK hSt hN hw (c_X10_fits l G v144 v145 h2 v146 h147 ev) rfl rfl cv_L_94 (rm_law hcl hsl (by decide)) rfl (Nat.le_of_ble_eq_true rfl) rfl rfl dL_law_788 (fun H locs hw => ?_)
        refine lv_aload_n (pc := 791) hx hb dL_law_791 rfl (lv_at hl 2 rfl) ?_
        refine lv_aload_n (pc := 792) hx hb dL_law_792 rfl (lv_at hl 0 rfl) ?_
        refine lv_iload_n (pc := 793) hx hb dL_law_793 rfl (lv_at hl 3 rfl) ?_
        refine lv_iconst (pc := 794) (v := (iI 1)) hx hb dL_law_794 rfl ?_
        refine lv_iadd (pc := 795) hx hb dL_law_795 ?_
        refine q_sld (pc := 796) hx hb hX hbl hbA hw dL_law_796 hs (fun v148 hs => ?_)
        refine lv_aload_n (pc := 797) hx hb dL_law_797 rfl (lv_at hl 0 rfl) ?_
        refine lv_iload_n (pc := 798) hx hb dL_law_798 rfl (lv_at hl 3 rfl) ?_
        refine lv_iconst (pc := 799) (v := (iI 2)) hx hb dL_law_799 rfl ?_
        refine lv_iadd (pc := 800) hx hb dL_law_800 ?_
        refine q_sld (pc := 801) hx hb hX hbl hbA hw dL_law_801 hs (fun v149 hs => ?_)
        obtain ⟨v150, h151, ev, hs⟩ := q_cal2 hs
        refine q_callV (pc := 802) (q := 72) (As := [.int v148, .int v149]) (rest := [.int v146]) (rs := [.int v150, .int v146]) hx hb hml hl.1 hts hown hK hSt hN hw (c_X11_fits l G v148 v149 h147 v150 h151 ev) rfl rfl cv_L_97 (rm_law hcl hsl (by decide)) rfl (Nat.le_of_ble_eq_true rfl) rfl rfl dL_law_802 (fun H locs hw => ?_)
        refine lv_icmp_eq (pc := 805) (tgt := 1291) hx hb dL_law_805 (by decide) (fun hc => ?_) (fun hc => ?_)
        · replace hs := q_t hc hs
          exact hK6 _ hs _ _ hw _ (lv_sub hl [0, 1, 2, 3] rfl)
        · replace hs := q_f hc hs
          refine lv_iconst (pc := 808) (v := (iI 0)) hx hb dL_law_808 rfl ?_
          exact q_lawret hret dL_law_809 hw hs
      replace hs := q_f hc18 hs
      by_cases hc19 : (v4 &&& (iI 63)) = iI 19
      · replace hs := q_t hc19 hs
        refine lv_tableIn (pc := 33) (off := 777) (tgt := 810) hx hb dL_law_33 (by rw [hc19]; decide) (by rw [hc19]; decide) (by rw [hc19]; decide) (by decide) ?_
        refine lv_aload_n (pc := 810) hx hb dL_law_810 rfl (lv_at hl 1 rfl) ?_
        refine lv_aload_n (pc := 811) hx hb dL_law_811 rfl (lv_at hl 0 rfl) ?_
        refine lv_iload_n (pc := 812) hx hb dL_law_812 rfl (lv_at hl 3 rfl) ?_
        refine lv_iconst (pc := 813) (v := (iI 1)) hx hb dL_law_813 rfl ?_
        refine lv_iadd (pc := 814) hx hb dL_law_814 ?_
        refine q_sld (pc := 815) hx hb hX hbl hbA hw dL_law_815 hs (fun v152 hs => ?_)
        refine lv_aload_n (pc := 816) hx hb dL_law_816 rfl (lv_at hl 0 rfl) ?_
        refine lv_iload_n (pc := 817) hx hb dL_law_817 rfl (lv_at hl 3 rfl) ?_
        refine lv_iconst (pc := 818) (v := (iI 2)) hx hb dL_law_818 rfl ?_
        refine lv_iadd (pc := 819) hx hb dL_law_819 ?_
        refine q_sld (pc := 820) hx hb hX hbl hbA hw dL_law_820 hs (fun v153 hs => ?_)
        refine lv_aload_n (pc := 821) hx hb dL_law_821 rfl (lv_at hl 0 rfl) ?_
        refine lv_iload_n (pc := 822) hx hb dL_law_822 rfl (lv_at hl 3 rfl) ?_
        refine lv_iconst (pc := 823) (v := (iI 3)) hx hb dL_law_823 rfl ?_
        refine lv_iadd (pc := 824) hx hb dL_law_824 ?_
        refine q_sld (pc := 825) hx hb hX hbl hbA hw dL_law_825 hs (fun v154 hs => ?_)
        obtain ⟨v155, h156, ev, hs⟩ := q_cal2 hs
        refine q_callV (pc := 826) (q := 0) (As := [.int v152, .int v153, .int v154]) (rest := []) (rs := [.int v155]) hx hb hml hl.1 hts hown hK hSt hN hw (c_X10_tells l G v152 v153 v154 h2 v155 h156 ev) rfl rfl cv_L_98 (rm_law hcl hsl (by decide)) rfl (Nat.le_of_ble_eq_true rfl) rfl rfl dL_law_826 (fun H locs hw => ?_)
        refine lv_aload_n (pc := 829) hx hb dL_law_829 rfl (lv_at hl 2 rfl) ?_
        refine lv_aload_n (pc := 830) hx hb dL_law_830 rfl (lv_at hl 0 rfl) ?_
        refine lv_iload_n (pc := 831) hx hb dL_law_831 rfl (lv_at hl 3 rfl) ?_
        refine lv_iconst (pc := 832) (v := (iI 1)) hx hb dL_law_832 rfl ?_
        refine lv_iadd (pc := 833) hx hb dL_law_833 ?_
        refine q_sld (pc := 834) hx hb hX hbl hbA hw dL_law_834 hs (fun v157 hs => ?_)
        refine lv_aload_n (pc := 835) hx hb dL_law_835 rfl (lv_at hl 0 rfl) ?_
        refine lv_iload_n (pc := 836) hx hb dL_law_836 rfl (lv_at hl 3 rfl) ?_
        refine lv_iconst (pc := 837) (v := (iI 2)) hx hb dL_law_837 rfl ?_
        refine lv_iadd (pc := 838) hx hb dL_law_838 ?_
        refine q_sld (pc := 839) hx hb hX hbl hbA hw dL_law_839 hs (fun v158 hs => ?_)
        refine lv_aload_n (pc := 840) hx hb dL_law_840 rfl (lv_at hl 0 rfl) ?_
        refine lv_iload_n (pc := 841) hx hb dL_law_841 rfl (lv_at hl 3 rfl) ?_
        refine lv_iconst (pc := 842) (v := (iI 3)) hx hb dL_law_842 rfl ?_
        refine lv_iadd (pc := 843) hx hb dL_law_843 ?_
        refine q_sld (pc := 844) hx hb hX hbl hbA hw dL_law_844 hs (fun v159 hs => ?_)
        obtain ⟨v160, h161, ev, hs⟩ := q_cal2 hs
        refine q_callV (pc := 845) (q := 72) (As := [.int v157, .int v158, .int v159]) (rest := [.int v155]) (rs := [.int v160, .int v155]) hx hb hml hl.1 hts hown hK hSt hN hw (c_X11_tells l G v157 v158 v159 h156 v160 h161 ev) rfl rfl cv_L_101 (rm_law hcl hsl (by decide)) rfl (Nat.le_of_ble_eq_true rfl) rfl rfl dL_law_845 (fun H locs hw => ?_)
        refine lv_icmp_eq (pc := 848) (tgt := 1291) hx hb dL_law_848 (by decide) (fun hc => ?_) (fun hc => ?_)
        · replace hs := q_t hc hs
          exact hK6 _ hs _ _ hw _ (lv_sub hl [0, 1, 2, 3] rfl)
        · replace hs := q_f hc hs
          refine lv_iconst (pc := 851) (v := (iI 0)) hx hb dL_law_851 rfl ?_
          exact q_lawret hret dL_law_852 hw hs
      replace hs := q_f hc19 hs
      by_cases hc20 : (v4 &&& (iI 63)) = iI 20
      · replace hs := q_t hc20 hs
        refine lv_tableIn (pc := 33) (off := 820) (tgt := 853) hx hb dL_law_33 (by rw [hc20]; decide) (by rw [hc20]; decide) (by rw [hc20]; decide) (by decide) ?_
        refine lv_aload_n (pc := 853) hx hb dL_law_853 rfl (lv_at hl 1 rfl) ?_
        refine lv_aload_n (pc := 854) hx hb dL_law_854 rfl (lv_at hl 0 rfl) ?_
        refine lv_iload_n (pc := 855) hx hb dL_law_855 rfl (lv_at hl 3 rfl) ?_
        refine lv_iconst (pc := 856) (v := (iI 1)) hx hb dL_law_856 rfl ?_
        refine lv_iadd (pc := 857) hx hb dL_law_857 ?_
        refine q_sld (pc := 858) hx hb hX hbl hbA hw dL_law_858 hs (fun v162 hs => ?_)
        obtain ⟨v163, h164, ev, hs⟩ := q_cal2 hs
        refine q_callV (pc := 859) (q := 0) (As := [.int v162]) (rest := []) (rs := [.int v163]) hx hb hml hl.1 hts hown hK hSt hN hw (c_X10_longest l G v162 h2 v163 h164 ev) rfl rfl cv_L_102 (rm_law hcl hsl (by decide)) rfl (Nat.le_of_ble_eq_true rfl) rfl rfl dL_law_859 (fun H locs hw => ?_)
        refine lv_aload_n (pc := 862) hx hb dL_law_862 rfl (lv_at hl 2 rfl) ?_
        refine lv_aload_n (pc := 863) hx hb dL_law_863 rfl (lv_at hl 0 rfl) ?_
        refine lv_iload_n (pc := 864) hx hb dL_law_864 rfl (lv_at hl 3 rfl) ?_
        refine lv_iconst (pc := 865) (v := (iI 1)) hx hb dL_law_865 rfl ?_
        refine lv_iadd (pc := 866) hx hb dL_law_866 ?_
        refine q_sld (pc := 867) hx hb hX hbl hbA hw dL_law_867 hs (fun v165 hs => ?_)
        obtain ⟨v166, h167, ev, hs⟩ := q_cal2 hs
        refine q_callV (pc := 868) (q := 72) (As := [.int v165]) (rest := [.int v163]) (rs := [.int v166, .int v163]) hx hb hml hl.1 hts hown hK hSt hN hw (c_X11_longest l G v165 h164 v166 h167 ev) rfl rfl cv_L_105 (rm_law hcl hsl (by decide)) rfl (Nat.le_of_ble_eq_true rfl) rfl rfl dL_law_868 (fun H locs hw => ?_)
        refine lv_icmp_eq (pc := 871) (tgt := 1291) hx hb dL_law_871 (by decide) (fun hc => ?_) (fun hc => ?_)
        · replace hs := q_t hc hs
          exact hK6 _ hs _ _ hw _ (lv_sub hl [0, 1, 2, 3] rfl)
        · replace hs := q_f hc hs
          refine lv_iconst (pc := 874) (v := (iI 0)) hx hb dL_law_874 rfl ?_
          exact q_lawret hret dL_law_875 hw hs
      replace hs := q_f hc20 hs
      by_cases hc21 : (v4 &&& (iI 63)) = iI 21
      · replace hs := q_t hc21 hs
        refine lv_tableIn (pc := 33) (off := 843) (tgt := 876) hx hb dL_law_33 (by rw [hc21]; decide) (by rw [hc21]; decide) (by rw [hc21]; decide) (by decide) ?_
        refine lv_aload_n (pc := 876) hx hb dL_law_876 rfl (lv_at hl 1 rfl) ?_
        refine lv_aload_n (pc := 877) hx hb dL_law_877 rfl (lv_at hl 0 rfl) ?_
        refine lv_iload_n (pc := 878) hx hb dL_law_878 rfl (lv_at hl 3 rfl) ?_
        refine lv_iconst (pc := 879) (v := (iI 1)) hx hb dL_law_879 rfl ?_
        refine lv_iadd (pc := 880) hx hb dL_law_880 ?_
        refine q_sld (pc := 881) hx hb hX hbl hbA hw dL_law_881 hs (fun v168 hs => ?_)
        obtain ⟨v169, h170, ev, hs⟩ := q_cal2 hs
        refine q_callV (pc := 882) (q := 0) (As := [.int v168]) (rest := []) (rs := [.int v169]) hx hb hml hl.1 hts hown hK hSt hN hw (c_X10_days l G v168 h2 v169 h170 ev) rfl rfl cv_L_106 (rm_law hcl hsl (by decide)) rfl (Nat.le_of_ble_eq_true rfl) rfl rfl dL_law_882 (fun H locs hw => ?_)
        refine lv_aload_n (pc := 885) hx hb dL_law_885 rfl (lv_at hl 2 rfl) ?_
        refine lv_aload_n (pc := 886) hx hb dL_law_886 rfl (lv_at hl 0 rfl) ?_
        refine lv_iload_n (pc := 887) hx hb dL_law_887 rfl (lv_at hl 3 rfl) ?_
        refine lv_iconst (pc := 888) (v := (iI 1)) hx hb dL_law_888 rfl ?_
        refine lv_iadd (pc := 889) hx hb dL_law_889 ?_
        refine q_sld (pc := 890) hx hb hX hbl hbA hw dL_law_890 hs (fun v171 hs => ?_)
        obtain ⟨v172, h173, ev, hs⟩ := q_cal2 hs
        refine q_callV (pc := 891) (q := 72) (As := [.int v171]) (rest := [.int v169]) (rs := [.int v172, .int v169]) hx hb hml hl.1 hts hown hK hSt hN hw (c_X11_days l G v171 h170 v172 h173 ev) rfl rfl cv_L_109 (rm_law hcl hsl (by decide)) rfl (Nat.le_of_ble_eq_true rfl) rfl rfl dL_law_891 (fun H locs hw => ?_)
        refine lv_icmp_eq (pc := 894) (tgt := 1291) hx hb dL_law_894 (by decide) (fun hc => ?_) (fun hc => ?_)
        · replace hs := q_t hc hs
          exact hK6 _ hs _ _ hw _ (lv_sub hl [0, 1, 2, 3] rfl)
        · replace hs := q_f hc hs
          refine lv_iconst (pc := 897) (v := (iI 0)) hx hb dL_law_897 rfl ?_
          exact q_lawret hret dL_law_898 hw hs
      replace hs := q_f hc21 hs
      by_cases hc22 : (v4 &&& (iI 63)) = iI 22
      · replace hs := q_t hc22 hs
        refine lv_tableIn (pc := 33) (off := 866) (tgt := 899) hx hb dL_law_33 (by rw [hc22]; decide) (by rw [hc22]; decide) (by rw [hc22]; decide) (by decide) ?_
        refine lv_aload_n (pc := 899) hx hb dL_law_899 rfl (lv_at hl 1 rfl) ?_
        refine lv_aload_n (pc := 900) hx hb dL_law_900 rfl (lv_at hl 0 rfl) ?_
        refine lv_iload_n (pc := 901) hx hb dL_law_901 rfl (lv_at hl 3 rfl) ?_
        refine lv_iconst (pc := 902) (v := (iI 1)) hx hb dL_law_902 rfl ?_
        refine lv_iadd (pc := 903) hx hb dL_law_903 ?_
        refine q_sld (pc := 904) hx hb hX hbl hbA hw dL_law_904 hs (fun v174 hs => ?_)
        obtain ⟨v175, h176, ev, hs⟩ := q_cal2 hs
        refine q_callV (pc := 905) (q := 0) (As := [.int v174]) (rest := []) (rs := [.int v175]) hx hb hml hl.1 hts hown hK hSt hN hw (c_X10_seed l G v174 h2 v175 h176 ev) rfl rfl cv_L_110 (rm_law hcl hsl (by decide)) rfl (Nat.le_of_ble_eq_true rfl) rfl rfl dL_law_905 (fun H locs hw => ?_)
        refine lv_aload_n (pc := 908) hx hb dL_law_908 rfl (lv_at hl 2 rfl) ?_
        refine lv_aload_n (pc := 909) hx hb dL_law_909 rfl (lv_at hl 0 rfl) ?_
        refine lv_iload_n (pc := 910) hx hb dL_law_910 rfl (lv_at hl 3 rfl) ?_
        refine lv_iconst (pc := 911) (v := (iI 1)) hx hb dL_law_911 rfl ?_
        refine lv_iadd (pc := 912) hx hb dL_law_912 ?_
        refine q_sld (pc := 913) hx hb hX hbl hbA hw dL_law_913 hs (fun v177 hs => ?_)
        obtain ⟨v178, h179, ev, hs⟩ := q_cal2 hs
        refine q_callV (pc := 914) (q := 72) (As := [.int v177]) (rest := [.int v175]) (rs := [.int v178, .int v175]) hx hb hml hl.1 hts hown hK hSt hN hw (c_X11_seed l G v177 h176 v178 h179 ev) rfl rfl cv_L_113 (rm_law hcl hsl (by decide)) rfl (Nat.le_of_ble_eq_true rfl) rfl rfl dL_law_914 (fun H locs hw => ?_)
        refine lv_icmp_eq (pc := 917) (tgt := 1291) hx hb dL_law_917 (by decide) (fun hc => ?_) (fun hc => ?_)
        · replace hs := q_t hc hs
          exact hK6 _ hs _ _ hw _ (lv_sub hl [0, 1, 2, 3] rfl)
        · replace hs := q_f hc hs
          refine lv_iconst (pc := 920) (v := (iI 0)) hx hb dL_law_920 rfl ?_
          exact q_lawret hret dL_law_921 hw hs
      replace hs := q_f hc22 hs
      by_cases hc23 : (v4 &&& (iI 63)) = iI 23
      · replace hs := q_t hc23 hs
        refine lv_tableIn (pc := 33) (off := 889) (tgt := 922) hx hb dL_law_33 (by rw [hc23]; decide) (by rw [hc23]; decide) (by rw [hc23]; decide) (by decide) ?_
        refine lv_aload_n (pc := 922) hx hb dL_law_922 rfl (lv_at hl 1 rfl) ?_
        refine lv_aload_n (pc := 923) hx hb dL_law_923 rfl (lv_at hl 0 rfl) ?_
        refine lv_iload_n (pc := 924) hx hb dL_law_924 rfl (lv_at hl 3 rfl) ?_
        refine lv_iconst (pc := 925) (v := (iI 1)) hx hb dL_law_925 rfl ?_
        refine lv_iadd (pc := 926) hx hb dL_law_926 ?_
        refine q_sld (pc := 927) hx hb hX hbl hbA hw dL_law_927 hs (fun v180 hs => ?_)
        refine lv_aload_n (pc := 928) hx hb dL_law_928 rfl (lv_at hl 0 rfl) ?_
        refine lv_iload_n (pc := 929) hx hb dL_law_929 rfl (lv_at hl 3 rfl) ?_
        refine lv_iconst (pc := 930) (v := (iI 2)) hx hb dL_law_930 rfl ?_
        refine lv_iadd (pc := 931) hx hb dL_law_931 ?_
        refine q_sld (pc := 932) hx hb hX hbl hbA hw dL_law_932 hs (fun v181 hs => ?_)
        refine lv_aload_n (pc := 933) hx hb dL_law_933 rfl (lv_at hl 0 rfl) ?_
        refine lv_iload_n (pc := 934) hx hb dL_law_934 rfl (lv_at hl 3 rfl) ?_
        refine lv_iconst (pc := 935) (v := (iI 3)) hx hb dL_law_935 rfl ?_
        refine lv_iadd (pc := 936) hx hb dL_law_936 ?_
        refine q_sld (pc := 937) hx hb hX hbl hbA hw dL_law_937 hs (fun v182 hs => ?_)
        obtain ⟨v183, h184, ev, hs⟩ := q_cal2 hs
        refine q_callV (pc := 938) (q := 0) (As := [.int v180, .int v181, .int v182]) (rest := []) (rs := [.int v183]) hx hb hml hl.1 hts hown hK hSt hN hw (c_X10_voice l G v180 v181 v182 h2 v183 h184 ev) rfl rfl cv_L_114 (rm_law hcl hsl (by decide)) rfl (Nat.le_of_ble_eq_true rfl) rfl rfl dL_law_938 (fun H locs hw => ?_)
        refine lv_aload_n (pc := 941) hx hb dL_law_941 rfl (lv_at hl 2 rfl) ?_
        refine lv_aload_n (pc := 942) hx hb dL_law_942 rfl (lv_at hl 0 rfl) ?_
        refine lv_iload_n (pc := 943) hx hb dL_law_943 rfl (lv_at hl 3 rfl) ?_
        refine lv_iconst (pc := 944) (v := (iI 1)) hx hb dL_law_944 rfl ?_
        refine lv_iadd (pc := 945) hx hb dL_law_945 ?_
        refine q_sld (pc := 946) hx hb hX hbl hbA hw dL_law_946 hs (fun v185 hs => ?_)
        refine lv_aload_n (pc := 947) hx hb dL_law_947 rfl (lv_at hl 0 rfl) ?_
        refine lv_iload_n (pc := 948) hx hb dL_law_948 rfl (lv_at hl 3 rfl) ?_
        refine lv_iconst (pc := 949) (v := (iI 2)) hx hb dL_law_949 rfl ?_
        refine lv_iadd (pc := 950) hx hb dL_law_950 ?_
        refine q_sld (pc := 951) hx hb hX hbl hbA hw dL_law_951 hs (fun v186 hs => ?_)
        refine lv_aload_n (pc := 952) hx hb dL_law_952 rfl (lv_at hl 0 rfl) ?_
        refine lv_iload_n (pc := 953) hx hb dL_law_953 rfl (lv_at hl 3 rfl) ?_
        refine lv_iconst (pc := 954) (v := (iI 3)) hx hb dL_law_954 rfl ?_
        refine lv_iadd (pc := 955) hx hb dL_law_955 ?_
        refine q_sld (pc := 956) hx hb hX hbl hbA hw dL_law_956 hs (fun v187 hs => ?_)
        obtain ⟨v188, h189, ev, hs⟩ := q_cal2 hs
        refine q_callV (pc := 957) (q := 72) (As := [.int v185, .int v186, .int v187]) (rest := [.int v183]) (rs := [.int v188, .int v183]) hx hb hml hl.1 hts hown hK hSt hN hw (c_X11_voice l G v185 v186 v187 h184 v188 h189 ev) rfl rfl cv_L_117 (rm_law hcl hsl (by decide)) rfl (Nat.le_of_ble_eq_true rfl) rfl rfl dL_law_957 (fun H locs hw => ?_)
        refine lv_icmp_eq (pc := 960) (tgt := 1291) hx hb dL_law_960 (by decide) (fun hc => ?_) (fun hc => ?_)
        · replace hs := q_t hc hs
          exact hK6 _ hs _ _ hw _ (lv_sub hl [0, 1, 2, 3] rfl)
        · replace hs := q_f hc hs
          refine lv_iconst (pc := 963) (v := (iI 0)) hx hb dL_law_963 rfl ?_
          exact q_lawret hret dL_law_964 hw hs
      replace hs := q_f hc23 hs
      by_cases hc24 : (v4 &&& (iI 63)) = iI 24
      · replace hs := q_t hc24 hs
        refine lv_tableIn (pc := 33) (off := 932) (tgt := 965) hx hb dL_law_33 (by rw [hc24]; decide) (by rw [hc24]; decide) (by rw [hc24]; decide) (by decide) ?_
        refine lv_aload_n (pc := 965) hx hb dL_law_965 rfl (lv_at hl 1 rfl) ?_
        refine lv_aload_n (pc := 966) hx hb dL_law_966 rfl (lv_at hl 0 rfl) ?_
        refine lv_iload_n (pc := 967) hx hb dL_law_967 rfl (lv_at hl 3 rfl) ?_
        refine lv_iconst (pc := 968) (v := (iI 1)) hx hb dL_law_968 rfl ?_
        refine lv_iadd (pc := 969) hx hb dL_law_969 ?_
        refine q_sld (pc := 970) hx hb hX hbl hbA hw dL_law_970 hs (fun v190 hs => ?_)
        obtain ⟨v191, h192, ev, hs⟩ := q_cal2 hs
        refine q_callV (pc := 971) (q := 0) (As := [.int v190]) (rest := []) (rs := [.int v191]) hx hb hml hl.1 hts hown hK hSt hN hw (c_X10_trace l G v190 h2 v191 h192 ev) rfl rfl cv_L_118 (rm_law hcl hsl (by decide)) rfl (Nat.le_of_ble_eq_true rfl) rfl rfl dL_law_971 (fun H locs hw => ?_)
        refine lv_aload_n (pc := 974) hx hb dL_law_974 rfl (lv_at hl 2 rfl) ?_
        refine lv_aload_n (pc := 975) hx hb dL_law_975 rfl (lv_at hl 0 rfl) ?_
        refine lv_iload_n (pc := 976) hx hb dL_law_976 rfl (lv_at hl 3 rfl) ?_
        refine lv_iconst (pc := 977) (v := (iI 1)) hx hb dL_law_977 rfl ?_
        refine lv_iadd (pc := 978) hx hb dL_law_978 ?_
        refine q_sld (pc := 979) hx hb hX hbl hbA hw dL_law_979 hs (fun v193 hs => ?_)
        obtain ⟨v194, h195, ev, hs⟩ := q_cal2 hs
        refine q_callV (pc := 980) (q := 72) (As := [.int v193]) (rest := [.int v191]) (rs := [.int v194, .int v191]) hx hb hml hl.1 hts hown hK hSt hN hw (c_X11_trace l G v193 h192 v194 h195 ev) rfl rfl cv_L_121 (rm_law hcl hsl (by decide)) rfl (Nat.le_of_ble_eq_true rfl) rfl rfl dL_law_980 (fun H locs hw => ?_)
        refine lv_icmp_eq (pc := 983) (tgt := 1291) hx hb dL_law_983 (by decide) (fun hc => ?_) (fun hc => ?_)
        · replace hs := q_t hc hs
          exact hK6 _ hs _ _ hw _ (lv_sub hl [0, 1, 2, 3] rfl)
        · replace hs := q_f hc hs
          refine lv_iconst (pc := 986) (v := (iI 0)) hx hb dL_law_986 rfl ?_
          exact q_lawret hret dL_law_987 hw hs
      replace hs := q_f hc24 hs
      by_cases hc25 : (v4 &&& (iI 63)) = iI 25
      · replace hs := q_t hc25 hs
        refine lv_tableIn (pc := 33) (off := 955) (tgt := 988) hx hb dL_law_33 (by rw [hc25]; decide) (by rw [hc25]; decide) (by rw [hc25]; decide) (by decide) ?_
        refine lv_aload_n (pc := 988) hx hb dL_law_988 rfl (lv_at hl 1 rfl) ?_
        refine lv_aload_n (pc := 989) hx hb dL_law_989 rfl (lv_at hl 0 rfl) ?_
        refine lv_iload_n (pc := 990) hx hb dL_law_990 rfl (lv_at hl 3 rfl) ?_
        refine lv_iconst (pc := 991) (v := (iI 1)) hx hb dL_law_991 rfl ?_
        refine lv_iadd (pc := 992) hx hb dL_law_992 ?_
        refine q_sld (pc := 993) hx hb hX hbl hbA hw dL_law_993 hs (fun v196 hs => ?_)
        refine lv_aload_n (pc := 994) hx hb dL_law_994 rfl (lv_at hl 0 rfl) ?_
        refine lv_iload_n (pc := 995) hx hb dL_law_995 rfl (lv_at hl 3 rfl) ?_
        refine lv_iconst (pc := 996) (v := (iI 2)) hx hb dL_law_996 rfl ?_
        refine lv_iadd (pc := 997) hx hb dL_law_997 ?_
        refine q_sld (pc := 998) hx hb hX hbl hbA hw dL_law_998 hs (fun v197 hs => ?_)
        refine lv_aload_n (pc := 999) hx hb dL_law_999 rfl (lv_at hl 0 rfl) ?_
        refine lv_iload_n (pc := 1000) hx hb dL_law_1000 rfl (lv_at hl 3 rfl) ?_
        refine lv_iconst (pc := 1001) (v := (iI 3)) hx hb dL_law_1001 rfl ?_
        refine lv_iadd (pc := 1002) hx hb dL_law_1002 ?_
        refine q_sld (pc := 1003) hx hb hX hbl hbA hw dL_law_1003 hs (fun v198 hs => ?_)
        obtain ⟨v199, h200, ev, hs⟩ := q_cal2 hs
        refine q_callV (pc := 1004) (q := 0) (As := [.int v196, .int v197, .int v198]) (rest := []) (rs := [.int v199]) hx hb hml hl.1 hts hown hK hSt hN hw (c_X10_sheet l G v196 v197 v198 h2 v199 h200 ev) rfl rfl cv_L_122 (rm_law hcl hsl (by decide)) rfl (Nat.le_of_ble_eq_true rfl) rfl rfl dL_law_1004 (fun H locs hw => ?_)
        refine lv_aload_n (pc := 1007) hx hb dL_law_1007 rfl (lv_at hl 2 rfl) ?_
        refine lv_aload_n (pc := 1008) hx hb dL_law_1008 rfl (lv_at hl 0 rfl) ?_
        refine lv_iload_n (pc := 1009) hx hb dL_law_1009 rfl (lv_at hl 3 rfl) ?_
        refine lv_iconst (pc := 1010) (v := (iI 1)) hx hb dL_law_1010 rfl ?_
        refine lv_iadd (pc := 1011) hx hb dL_law_1011 ?_
        refine q_sld (pc := 1012) hx hb hX hbl hbA hw dL_law_1012 hs (fun v201 hs => ?_)
        refine lv_aload_n (pc := 1013) hx hb dL_law_1013 rfl (lv_at hl 0 rfl) ?_
        refine lv_iload_n (pc := 1014) hx hb dL_law_1014 rfl (lv_at hl 3 rfl) ?_
        refine lv_iconst (pc := 1015) (v := (iI 2)) hx hb dL_law_1015 rfl ?_
        refine lv_iadd (pc := 1016) hx hb dL_law_1016 ?_
        refine q_sld (pc := 1017) hx hb hX hbl hbA hw dL_law_1017 hs (fun v202 hs => ?_)
        refine lv_aload_n (pc := 1018) hx hb dL_law_1018 rfl (lv_at hl 0 rfl) ?_
        refine lv_iload_n (pc := 1019) hx hb dL_law_1019 rfl (lv_at hl 3 rfl) ?_
        refine lv_iconst (pc := 1020) (v := (iI 3)) hx hb dL_law_1020 rfl ?_
        refine lv_iadd (pc := 1021) hx hb dL_law_1021 ?_
        refine q_sld (pc := 1022) hx hb hX hbl hbA hw dL_law_1022 hs (fun v203 hs => ?_)
        obtain ⟨v204, h205, ev, hs⟩ := q_cal2 hs
        refine q_callV (pc := 1023) (q := 72) (As := [.int v201, .int v202, .int v203]) (rest := [.int v199]) (rs := [.int v204, .int v199]) hx hb hml hl.1 hts hown hK hSt hN hw (c_X11_sheet l G v201 v202 v203 h200 v204 h205 ev) rfl rfl cv_L_125 (rm_law hcl hsl (by decide)) rfl (Nat.le_of_ble_eq_true rfl) rfl rfl dL_law_1023 (fun H locs hw => ?_)
        refine lv_icmp_eq (pc := 1026) (tgt := 1291) hx hb dL_law_1026 (by decide) (fun hc => ?_) (fun hc => ?_)
        · replace hs := q_t hc hs
          exact hK6 _ hs _ _ hw _ (lv_sub hl [0, 1, 2, 3] rfl)
        · replace hs := q_f hc hs
          refine lv_iconst (pc := 1029) (v := (iI 0)) hx hb dL_law_1029 rfl ?_
          exact q_lawret hret dL_law_1030 hw hs
      replace hs := q_f hc25 hs
      by_cases hc26 : (v4 &&& (iI 63)) = iI 26
      · replace hs := q_t hc26 hs
        refine lv_tableIn (pc := 33) (off := 998) (tgt := 1031) hx hb dL_law_33 (by rw [hc26]; decide) (by rw [hc26]; decide) (by rw [hc26]; decide) (by decide) ?_
        refine lv_aload_n (pc := 1031) hx hb dL_law_1031 rfl (lv_at hl 1 rfl) ?_
        refine lv_aload_n (pc := 1032) hx hb dL_law_1032 rfl (lv_at hl 0 rfl) ?_
        refine lv_iload_n (pc := 1033) hx hb dL_law_1033 rfl (lv_at hl 3 rfl) ?_
        refine lv_iconst (pc := 1034) (v := (iI 1)) hx hb dL_law_1034 rfl ?_
        refine lv_iadd (pc := 1035) hx hb dL_law_1035 ?_
        refine q_sld (pc := 1036) hx hb hX hbl hbA hw dL_law_1036 hs (fun v206 hs => ?_)
        refine lv_aload_n (pc := 1037) hx hb dL_law_1037 rfl (lv_at hl 0 rfl) ?_
        refine lv_iload_n (pc := 1038) hx hb dL_law_1038 rfl (lv_at hl 3 rfl) ?_
        refine lv_iconst (pc := 1039) (v := (iI 2)) hx hb dL_law_1039 rfl ?_
        refine lv_iadd (pc := 1040) hx hb dL_law_1040 ?_
        refine q_sld (pc := 1041) hx hb hX hbl hbA hw dL_law_1041 hs (fun v207 hs => ?_)
        refine lv_aload_n (pc := 1042) hx hb dL_law_1042 rfl (lv_at hl 0 rfl) ?_
        refine lv_iload_n (pc := 1043) hx hb dL_law_1043 rfl (lv_at hl 3 rfl) ?_
        refine lv_iconst (pc := 1044) (v := (iI 3)) hx hb dL_law_1044 rfl ?_
        refine lv_iadd (pc := 1045) hx hb dL_law_1045 ?_
        refine q_sld (pc := 1046) hx hb hX hbl hbA hw dL_law_1046 hs (fun v208 hs => ?_)
        obtain ⟨v209, h210, ev, hs⟩ := q_cal2 hs
        refine q_callV (pc := 1047) (q := 0) (As := [.int v206, .int v207, .int v208]) (rest := []) (rs := [.int v209]) hx hb hml hl.1 hts hown hK hSt hN hw (c_X10_put l G v206 v207 v208 h2 v209 h210 ev) rfl rfl cv_L_126 (rm_law hcl hsl (by decide)) rfl (Nat.le_of_ble_eq_true rfl) rfl rfl dL_law_1047 (fun H locs hw => ?_)
        refine lv_aload_n (pc := 1050) hx hb dL_law_1050 rfl (lv_at hl 2 rfl) ?_
        refine lv_aload_n (pc := 1051) hx hb dL_law_1051 rfl (lv_at hl 0 rfl) ?_
        refine lv_iload_n (pc := 1052) hx hb dL_law_1052 rfl (lv_at hl 3 rfl) ?_
        refine lv_iconst (pc := 1053) (v := (iI 1)) hx hb dL_law_1053 rfl ?_
        refine lv_iadd (pc := 1054) hx hb dL_law_1054 ?_
        refine q_sld (pc := 1055) hx hb hX hbl hbA hw dL_law_1055 hs (fun v211 hs => ?_)
        refine lv_aload_n (pc := 1056) hx hb dL_law_1056 rfl (lv_at hl 0 rfl) ?_
        refine lv_iload_n (pc := 1057) hx hb dL_law_1057 rfl (lv_at hl 3 rfl) ?_
        refine lv_iconst (pc := 1058) (v := (iI 2)) hx hb dL_law_1058 rfl ?_
        refine lv_iadd (pc := 1059) hx hb dL_law_1059 ?_
        refine q_sld (pc := 1060) hx hb hX hbl hbA hw dL_law_1060 hs (fun v212 hs => ?_)
        refine lv_aload_n (pc := 1061) hx hb dL_law_1061 rfl (lv_at hl 0 rfl) ?_
        refine lv_iload_n (pc := 1062) hx hb dL_law_1062 rfl (lv_at hl 3 rfl) ?_
        refine lv_iconst (pc := 1063) (v := (iI 3)) hx hb dL_law_1063 rfl ?_
        refine lv_iadd (pc := 1064) hx hb dL_law_1064 ?_
        refine q_sld (pc := 1065) hx hb hX hbl hbA hw dL_law_1065 hs (fun v213 hs => ?_)
        obtain ⟨v214, h215, ev, hs⟩ := q_cal2 hs
        refine q_callV (pc := 1066) (q := 72) (As := [.int v211, .int v212, .int v213]) (rest := [.int v209]) (rs := [.int v214, .int v209]) hx hb hml hl.1 hts hown hK hSt hN hw (c_X11_put l G v211 v212 v213 h210 v214 h215 ev) rfl rfl cv_L_129 (rm_law hcl hsl (by decide)) rfl (Nat.le_of_ble_eq_true rfl) rfl rfl dL_law_1066 (fun H locs hw => ?_)
        refine lv_icmp_eq (pc := 1069) (tgt := 1291) hx hb dL_law_1069 (by decide) (fun hc => ?_) (fun hc => ?_)
        · replace hs := q_t hc hs
          exact hK6 _ hs _ _ hw _ (lv_sub hl [0, 1, 2, 3] rfl)
        · replace hs := q_f hc hs
          refine lv_iconst (pc := 1072) (v := (iI 0)) hx hb dL_law_1072 rfl ?_
          exact q_lawret hret dL_law_1073 hw hs
      replace hs := q_f hc26 hs
      by_cases hc27 : (v4 &&& (iI 63)) = iI 27
      · replace hs := q_t hc27 hs
        refine lv_tableIn (pc := 33) (off := 1041) (tgt := 1074) hx hb dL_law_33 (by rw [hc27]; decide) (by rw [hc27]; decide) (by rw [hc27]; decide) (by decide) ?_
        refine lv_aload_n (pc := 1074) hx hb dL_law_1074 rfl (lv_at hl 1 rfl) ?_
        refine lv_aload_n (pc := 1075) hx hb dL_law_1075 rfl (lv_at hl 0 rfl) ?_
        refine lv_iload_n (pc := 1076) hx hb dL_law_1076 rfl (lv_at hl 3 rfl) ?_
        refine lv_iconst (pc := 1077) (v := (iI 1)) hx hb dL_law_1077 rfl ?_
        refine lv_iadd (pc := 1078) hx hb dL_law_1078 ?_
        refine q_sld (pc := 1079) hx hb hX hbl hbA hw dL_law_1079 hs (fun v216 hs => ?_)
        refine lv_aload_n (pc := 1080) hx hb dL_law_1080 rfl (lv_at hl 0 rfl) ?_
        refine lv_iload_n (pc := 1081) hx hb dL_law_1081 rfl (lv_at hl 3 rfl) ?_
        refine lv_iconst (pc := 1082) (v := (iI 2)) hx hb dL_law_1082 rfl ?_
        refine lv_iadd (pc := 1083) hx hb dL_law_1083 ?_
        refine q_sld (pc := 1084) hx hb hX hbl hbA hw dL_law_1084 hs (fun v217 hs => ?_)
        refine lv_aload_n (pc := 1085) hx hb dL_law_1085 rfl (lv_at hl 0 rfl) ?_
        refine lv_iload_n (pc := 1086) hx hb dL_law_1086 rfl (lv_at hl 3 rfl) ?_
        refine lv_iconst (pc := 1087) (v := (iI 3)) hx hb dL_law_1087 rfl ?_
        refine lv_iadd (pc := 1088) hx hb dL_law_1088 ?_
        refine q_sld (pc := 1089) hx hb hX hbl hbA hw dL_law_1089 hs (fun v218 hs => ?_)
        refine lv_aload_n (pc := 1090) hx hb dL_law_1090 rfl (lv_at hl 0 rfl) ?_
        refine lv_iload_n (pc := 1091) hx hb dL_law_1091 rfl (lv_at hl 3 rfl) ?_
        refine lv_iconst (pc := 1092) (v := (iI 4)) hx hb dL_law_1092 rfl ?_
        refine lv_iadd (pc := 1093) hx hb dL_law_1093 ?_
        refine q_sld (pc := 1094) hx hb hX hbl hbA hw dL_law_1094 hs (fun v219 hs => ?_)
        refine lv_aload_n (pc := 1095) hx hb dL_law_1095 rfl (lv_at hl 0 rfl) ?_
        refine lv_iload_n (pc := 1096) hx hb dL_law_1096 rfl (lv_at hl 3 rfl) ?_
        refine lv_iconst (pc := 1097) (v := (iI 5)) hx hb dL_law_1097 rfl ?_
        refine lv_iadd (pc := 1098) hx hb dL_law_1098 ?_
        refine q_sld (pc := 1099) hx hb hX hbl hbA hw dL_law_1099 hs (fun v220 hs => ?_)
        obtain ⟨v221, h222, ev, hs⟩ := q_cal2 hs
        refine q_callV (pc := 1100) (q := 0) (As := [.int v216, .int v217, .int v218, .int v219, .int v220]) (rest := []) (rs := [.int v221]) hx hb hml hl.1 hts hown hK hSt hN hw (c_X10_move l G v216 v217 v218 v219 v220 h2 v221 h222 ev) rfl rfl cv_L_130 (rm_law hcl hsl (by decide)) rfl (Nat.le_of_ble_eq_true rfl) rfl rfl dL_law_1100 (fun H locs hw => ?_)
        refine lv_aload_n (pc := 1103) hx hb dL_law_1103 rfl (lv_at hl 2 rfl) ?_
        refine lv_aload_n (pc := 1104) hx hb dL_law_1104 rfl (lv_at hl 0 rfl) ?_
        refine lv_iload_n (pc := 1105) hx hb dL_law_1105 rfl (lv_at hl 3 rfl) ?_
        refine lv_iconst (pc := 1106) (v := (iI 1)) hx hb dL_law_1106 rfl ?_
        refine lv_iadd (pc := 1107) hx hb dL_law_1107 ?_
        refine q_sld (pc := 1108) hx hb hX hbl hbA hw dL_law_1108 hs (fun v223 hs => ?_)
        refine lv_aload_n (pc := 1109) hx hb dL_law_1109 rfl (lv_at hl 0 rfl) ?_
        refine lv_iload_n (pc := 1110) hx hb dL_law_1110 rfl (lv_at hl 3 rfl) ?_
        refine lv_iconst (pc := 1111) (v := (iI 2)) hx hb dL_law_1111 rfl ?_
        refine lv_iadd (pc := 1112) hx hb dL_law_1112 ?_
        refine q_sld (pc := 1113) hx hb hX hbl hbA hw dL_law_1113 hs (fun v224 hs => ?_)
        refine lv_aload_n (pc := 1114) hx hb dL_law_1114 rfl (lv_at hl 0 rfl) ?_
        refine lv_iload_n (pc := 1115) hx hb dL_law_1115 rfl (lv_at hl 3 rfl) ?_
        refine lv_iconst (pc := 1116) (v := (iI 3)) hx hb dL_law_1116 rfl ?_
        refine lv_iadd (pc := 1117) hx hb dL_law_1117 ?_
        refine q_sld (pc := 1118) hx hb hX hbl hbA hw dL_law_1118 hs (fun v225 hs => ?_)
        refine lv_aload_n (pc := 1119) hx hb dL_law_1119 rfl (lv_at hl 0 rfl) ?_
        refine lv_iload_n (pc := 1120) hx hb dL_law_1120 rfl (lv_at hl 3 rfl) ?_
        refine lv_iconst (pc := 1121) (v := (iI 4)) hx hb dL_law_1121 rfl ?_
        refine lv_iadd (pc := 1122) hx hb dL_law_1122 ?_
        refine q_sld (pc := 1123) hx hb hX hbl hbA hw dL_law_1123 hs (fun v226 hs => ?_)
        refine lv_aload_n (pc := 1124) hx hb dL_law_1124 rfl (lv_at hl 0 rfl) ?_
        refine lv_iload_n (pc := 1125) hx hb dL_law_1125 rfl (lv_at hl 3 rfl) ?_
        refine lv_iconst (pc := 1126) (v := (iI 5)) hx hb dL_law_1126 rfl ?_
        refine lv_iadd (pc := 1127) hx hb dL_law_1127 ?_
        refine q_sld (pc := 1128) hx hb hX hbl hbA hw dL_law_1128 hs (fun v227 hs => ?_)
        obtain ⟨v228, h229, ev, hs⟩ := q_cal2 hs
        refine q_callV (pc := 1129) (q := 72) (As := [.int v223, .int v224, .int v225, .int v226, .int v227]) (rest := [.int v221]) (rs := [.int v228, .int v221]) hx hb hml hl.1 hts hown hK hSt hN hw (c_X11_move l G v223 v224 v225 v226 v227 h222 v228 h229 ev) rfl rfl cv_L_134 (rm_law hcl hsl (by decide)) rfl (Nat.le_of_ble_eq_true rfl) rfl rfl dL_law_1129 (fun H locs hw => ?_)
        refine lv_icmp_eq (pc := 1132) (tgt := 1291) hx hb dL_law_1132 (by decide) (fun hc => ?_) (fun hc => ?_)
        · replace hs := q_t hc hs
          exact hK6 _ hs _ _ hw _ (lv_sub hl [0, 1, 2, 3] rfl)
        · replace hs := q_f hc hs
          refine lv_iconst (pc := 1135) (v := (iI 0)) hx hb dL_law_1135 rfl ?_
          exact q_lawret hret dL_law_1136 hw hs
      replace hs := q_f hc27 hs
      by_cases hc28 : (v4 &&& (iI 63)) = iI 28
      · replace hs := q_t hc28 hs
        refine lv_tableIn (pc := 33) (off := 1104) (tgt := 1137) hx hb dL_law_33 (by rw [hc28]; decide) (by rw [hc28]; decide) (by rw [hc28]; decide) (by decide) ?_
        refine lv_aload_n (pc := 1137) hx hb dL_law_1137 rfl (lv_at hl 1 rfl) ?_
        refine lv_aload_n (pc := 1138) hx hb dL_law_1138 rfl (lv_at hl 0 rfl) ?_
        refine lv_iload_n (pc := 1139) hx hb dL_law_1139 rfl (lv_at hl 3 rfl) ?_
        refine lv_iconst (pc := 1140) (v := (iI 1)) hx hb dL_law_1140 rfl ?_
        refine lv_iadd (pc := 1141) hx hb dL_law_1141 ?_
        refine q_sld (pc := 1142) hx hb hX hbl hbA hw dL_law_1142 hs (fun v230 hs => ?_)
        obtain ⟨v231, h232, ev, hs⟩ := q_cal2 hs
        refine q_callV (pc := 1143) (q := 0) (As := [.int v230]) (rest := []) (rs := [.int v231]) hx hb hml hl.1 hts hown hK hSt hN hw (c_X10_lets l G v230 h2 v231 h232 ev) rfl rfl cv_L_135 (rm_law hcl hsl (by decide)) rfl (Nat.le_of_ble_eq_true rfl) rfl rfl dL_law_1143 (fun H locs hw => ?_)
        refine lv_aload_n (pc := 1146) hx hb dL_law_1146 rfl (lv_at hl 2 rfl) ?_
        refine lv_aload_n (pc := 1147) hx hb dL_law_1147 rfl (lv_at hl 0 rfl) ?_
        refine lv_iload_n (pc := 1148) hx hb dL_law_1148 rfl (lv_at hl 3 rfl) ?_
        refine lv_iconst (pc := 1149) (v := (iI 1)) hx hb dL_law_1149 rfl ?_
        refine lv_iadd (pc := 1150) hx hb dL_law_1150 ?_
        refine q_sld (pc := 1151) hx hb hX hbl hbA hw dL_law_1151 hs (fun v233 hs => ?_)
        obtain ⟨v234, h235, ev, hs⟩ := q_cal2 hs
        refine q_callV (pc := 1152) (q := 72) (As := [.int v233]) (rest := [.int v231]) (rs := [.int v234, .int v231]) hx hb hml hl.1 hts hown hK hSt hN hw (c_X11_lets l G v233 h232 v234 h235 ev) rfl rfl cv_L_138 (rm_law hcl hsl (by decide)) rfl (Nat.le_of_ble_eq_true rfl) rfl rfl dL_law_1152 (fun H locs hw => ?_)
        refine lv_icmp_eq (pc := 1155) (tgt := 1291) hx hb dL_law_1155 (by decide) (fun hc => ?_) (fun hc => ?_)
        · replace hs := q_t hc hs
          exact hK6 _ hs _ _ hw _ (lv_sub hl [0, 1, 2, 3] rfl)
        · replace hs := q_f hc hs
          refine lv_iconst (pc := 1158) (v := (iI 0)) hx hb dL_law_1158 rfl ?_
          exact q_lawret hret dL_law_1159 hw hs
      replace hs := q_f hc28 hs
      by_cases hc29 : (v4 &&& (iI 63)) = iI 29
      · replace hs := q_t hc29 hs
        refine lv_tableIn (pc := 33) (off := 1127) (tgt := 1160) hx hb dL_law_33 (by rw [hc29]; decide) (by rw [hc29]; decide) (by rw [hc29]; decide) (by decide) ?_
        refine lv_aload_n (pc := 1160) hx hb dL_law_1160 rfl (lv_at hl 1 rfl) ?_
        refine lv_aload_n (pc := 1161) hx hb dL_law_1161 rfl (lv_at hl 0 rfl) ?_
        refine lv_iload_n (pc := 1162) hx hb dL_law_1162 rfl (lv_at hl 3 rfl) ?_
        refine lv_iconst (pc := 1163) (v := (iI 1)) hx hb dL_law_1163 rfl ?_
        refine lv_iadd (pc := 1164) hx hb dL_law_1164 ?_
        refine q_sld (pc := 1165) hx hb hX hbl hbA hw dL_law_1165 hs (fun v236 hs => ?_)
        obtain ⟨v237, h238, ev, hs⟩ := q_cal2 hs
        refine q_callV (pc := 1166) (q := 0) (As := [.int v236]) (rest := []) (rs := [.int v237]) hx hb hml hl.1 hts hown hK hSt hN hw (c_X10_judge l G v236 h2 v237 h238 ev) rfl rfl cv_L_139 (rm_law hcl hsl (by decide)) rfl (Nat.le_of_ble_eq_true rfl) rfl rfl dL_law_1166 (fun H locs hw => ?_)
        refine lv_aload_n (pc := 1169) hx hb dL_law_1169 rfl (lv_at hl 2 rfl) ?_
        refine lv_aload_n (pc := 1170) hx hb dL_law_1170 rfl (lv_at hl 0 rfl) ?_
        refine lv_iload_n (pc := 1171) hx hb dL_law_1171 rfl (lv_at hl 3 rfl) ?_
        refine lv_iconst (pc := 1172) (v := (iI 1)) hx hb dL_law_1172 rfl ?_
        refine lv_iadd (pc := 1173) hx hb dL_law_1173 ?_
        refine q_sld (pc := 1174) hx hb hX hbl hbA hw dL_law_1174 hs (fun v239 hs => ?_)
        obtain ⟨v240, h241, ev, hs⟩ := q_cal2 hs
        refine q_callV (pc := 1175) (q := 72) (As := [.int v239]) (rest := [.int v237]) (rs := [.int v240, .int v237]) hx hb hml hl.1 hts hown hK hSt hN hw (c_X11_judge l G v239 h238 v240 h241 ev) rfl rfl cv_L_142 (rm_law hcl hsl (by decide)) rfl (Nat.le_of_ble_eq_true rfl) rfl rfl dL_law_1175 (fun H locs hw => ?_)
        refine lv_icmp_eq (pc := 1178) (tgt := 1291) hx hb dL_law_1178 (by decide) (fun hc => ?_) (fun hc => ?_)
        · replace hs := q_t hc hs
          exact hK6 _ hs _ _ hw _ (lv_sub hl [0, 1, 2, 3] rfl)
        · replace hs := q_f hc hs
          refine lv_iconst (pc := 1181) (v := (iI 0)) hx hb dL_law_1181 rfl ?_
          exact q_lawret hret dL_law_1182 hw hs
      replace hs := q_f hc29 hs
      by_cases hc30 : (v4 &&& (iI 63)) = iI 30
      · replace hs := q_t hc30 hs
        refine lv_tableIn (pc := 33) (off := 1150) (tgt := 1183) hx hb dL_law_33 (by rw [hc30]; decide) (by rw [hc30]; decide) (by rw [hc30]; decide) (by decide) ?_
        refine lv_aload_n (pc := 1183) hx hb dL_law_1183 rfl (lv_at hl 1 rfl) ?_
        obtain ⟨v242, h243, ev, hs⟩ := q_cal2 hs
        refine q_callV (pc := 1184) (q := 0) (As := []) (rest := []) (rs := [.int v242]) hx hb hml hl.1 hts hown hK hSt hN hw (c_X10_image l G h2 v242 h243 ev) rfl rfl cv_L_143 (rm_law hcl hsl (by decide)) rfl (Nat.le_of_ble_eq_true rfl) rfl rfl dL_law_1184 (fun H locs hw => ?_)
        refine lv_aload_n (pc := 1187) hx hb dL_law_1187 rfl (lv_at hl 2 rfl) ?_
        obtain ⟨v244, h245, ev, hs⟩ := q_cal2 hs
        refine q_callV (pc := 1188) (q := 72) (As := []) (rest := [.int v242]) (rs := [.int v244, .int v242]) hx hb hml hl.1 hts hown hK hSt hN hw (c_X11_image l G h243 v244 h245 ev) rfl rfl cv_L_146 (rm_law hcl hsl (by decide)) rfl (Nat.le_of_ble_eq_true rfl) rfl rfl dL_law_1188 (fun H locs hw => ?_)
        refine lv_icmp_eq (pc := 1191) (tgt := 1291) hx hb dL_law_1191 (by decide) (fun hc => ?_) (fun hc => ?_)
        · replace hs := q_t hc hs
          exact hK6 _ hs _ _ hw _ (lv_sub hl [0, 1, 2, 3] rfl)
        · replace hs := q_f hc hs
          refine lv_iconst (pc := 1194) (v := (iI 0)) hx hb dL_law_1194 rfl ?_
          exact q_lawret hret dL_law_1195 hw hs
      replace hs := q_f hc30 hs
      by_cases hc31 : (v4 &&& (iI 63)) = iI 31
      · replace hs := q_t hc31 hs
        refine lv_tableIn (pc := 33) (off := 1163) (tgt := 1196) hx hb dL_law_33 (by rw [hc31]; decide) (by rw [hc31]; decide) (by rw [hc31]; decide) (by decide) ?_
        refine lv_aload_n (pc := 1196) hx hb dL_law_1196 rfl (lv_at hl 1 rfl) ?_
        obtain ⟨v246, h247, ev, hs⟩ := q_cal2 hs
        refine q_callV (pc := 1197) (q := 0) (As := []) (rest := []) (rs := [.int v246]) hx hb hml hl.1 hts hown hK hSt hN hw (c_X10_restore l G h2 v246 h247 ev) rfl rfl cv_L_147 (rm_law hcl hsl (by decide)) rfl (Nat.le_of_ble_eq_true rfl) rfl rfl dL_law_1197 (fun H locs hw => ?_)
        refine lv_aload_n (pc := 1200) hx hb dL_law_1200 rfl (lv_at hl 2 rfl) ?_
        obtain ⟨v248, h249, ev, hs⟩ := q_cal2 hs
        refine q_callV (pc := 1201) (q := 72) (As := []) (rest := [.int v246]) (rs := [.int v248, .int v246]) hx hb hml hl.1 hts hown hK hSt hN hw (c_X11_restore l G h247 v248 h249 ev) rfl rfl cv_L_150 (rm_law hcl hsl (by decide)) rfl (Nat.le_of_ble_eq_true rfl) rfl rfl dL_law_1201 (fun H locs hw => ?_)
        refine lv_icmp_eq (pc := 1204) (tgt := 1291) hx hb dL_law_1204 (by decide) (fun hc => ?_) (fun hc => ?_)
        · replace hs := q_t hc hs
          exact hK6 _ hs _ _ hw _ (lv_sub hl [0, 1, 2, 3] rfl)
        · replace hs := q_f hc hs
          refine lv_iconst (pc := 1207) (v := (iI 0)) hx hb dL_law_1207 rfl ?_
          exact q_lawret hret dL_law_1208 hw hs
      replace hs := q_f hc31 hs
      by_cases hc32 : (v4 &&& (iI 63)) = iI 32
      · replace hs := q_t hc32 hs
        refine lv_tableIn (pc := 33) (off := 1176) (tgt := 1209) hx hb dL_law_33 (by rw [hc32]; decide) (by rw [hc32]; decide) (by rw [hc32]; decide) (by decide) ?_
        refine lv_aload_n (pc := 1209) hx hb dL_law_1209 rfl (lv_at hl 1 rfl) ?_
        refine lv_aload_n (pc := 1210) hx hb dL_law_1210 rfl (lv_at hl 0 rfl) ?_
        refine lv_iload_n (pc := 1211) hx hb dL_law_1211 rfl (lv_at hl 3 rfl) ?_
        refine lv_iconst (pc := 1212) (v := (iI 1)) hx hb dL_law_1212 rfl ?_
        refine lv_iadd (pc := 1213) hx hb dL_law_1213 ?_
        refine q_sld (pc := 1214) hx hb hX hbl hbA hw dL_law_1214 hs (fun v250 hs => ?_)
        obtain ⟨v251, h252, ev, hs⟩ := q_cal2 hs
        refine q_callV (pc := 1215) (q := 0) (As := [.int v250]) (rest := []) (rs := [.int v251]) hx hb hml hl.1 hts hown hK hSt hN hw (c_X10_tell l G v250 h2 v251 h252 ev) rfl rfl cv_L_151 (rm_law hcl hsl (by decide)) rfl (Nat.le_of_ble_eq_true rfl) rfl rfl dL_law_1215 (fun H locs hw => ?_)
        refine lv_aload_n (pc := 1218) hx hb dL_law_1218 rfl (lv_at hl 2 rfl) ?_
        refine lv_aload_n (pc := 1219) hx hb dL_law_1219 rfl (lv_at hl 0 rfl) ?_
        refine lv_iload_n (pc := 1220) hx hb dL_law_1220 rfl (lv_at hl 3 rfl) ?_
        refine lv_iconst (pc := 1221) (v := (iI 1)) hx hb dL_law_1221 rfl ?_
        refine lv_iadd (pc := 1222) hx hb dL_law_1222 ?_
        refine q_sld (pc := 1223) hx hb hX hbl hbA hw dL_law_1223 hs (fun v253 hs => ?_)
        obtain ⟨v254, h255, ev, hs⟩ := q_cal2 hs
        refine q_callV (pc := 1224) (q := 72) (As := [.int v253]) (rest := [.int v251]) (rs := [.int v254, .int v251]) hx hb hml hl.1 hts hown hK hSt hN hw (c_X11_tell l G v253 h252 v254 h255 ev) rfl rfl cv_L_154 (rm_law hcl hsl (by decide)) rfl (Nat.le_of_ble_eq_true rfl) rfl rfl dL_law_1224 (fun H locs hw => ?_)
        refine lv_icmp_eq (pc := 1227) (tgt := 1291) hx hb dL_law_1227 (by decide) (fun hc => ?_) (fun hc => ?_)
        · replace hs := q_t hc hs
          exact hK6 _ hs _ _ hw _ (lv_sub hl [0, 1, 2, 3] rfl)
        · replace hs := q_f hc hs
          refine lv_iconst (pc := 1230) (v := (iI 0)) hx hb dL_law_1230 rfl ?_
          exact q_lawret hret dL_law_1231 hw hs
      replace hs := q_f hc32 hs
      by_cases hc33 : (v4 &&& (iI 63)) = iI 33
      · replace hs := q_t hc33 hs
        refine lv_tableIn (pc := 33) (off := 1199) (tgt := 1232) hx hb dL_law_33 (by rw [hc33]; decide) (by rw [hc33]; decide) (by rw [hc33]; decide) (by decide) ?_
        refine lv_aload_n (pc := 1232) hx hb dL_law_1232 rfl (lv_at hl 1 rfl) ?_
        obtain ⟨v256, h257, ev, hs⟩ := q_cal2 hs
        refine q_callV (pc := 1233) (q := 0) (As := []) (rest := []) (rs := [.int v256]) hx hb hml hl.1 hts hown hK hSt hN hw (c_X10_check l G h2 v256 h257 ev) rfl rfl cv_L_155 (rm_law hcl hsl (by decide)) rfl (Nat.le_of_ble_eq_true rfl) rfl rfl dL_law_1233 (fun H locs hw => ?_)
        refine lv_aload_n (pc := 1236) hx hb dL_law_1236 rfl (lv_at hl 2 rfl) ?_
        obtain ⟨v258, h259, ev, hs⟩ := q_cal2 hs
        refine q_callV (pc := 1237) (q := 72) (As := []) (rest := [.int v256]) (rs := [.int v258, .int v256]) hx hb hml hl.1 hts hown hK hSt hN hw (c_X11_check l G h257 v258 h259 ev) rfl rfl cv_L_158 (rm_law hcl hsl (by decide)) rfl (Nat.le_of_ble_eq_true rfl) rfl rfl dL_law_1237 (fun H locs hw => ?_)
        refine lv_icmp_eq (pc := 1240) (tgt := 1291) hx hb dL_law_1240 (by decide) (fun hc => ?_) (fun hc => ?_)
        · replace hs := q_t hc hs
          exact hK6 _ hs _ _ hw _ (lv_sub hl [0, 1, 2, 3] rfl)
        · replace hs := q_f hc hs
          refine lv_iconst (pc := 1243) (v := (iI 0)) hx hb dL_law_1243 rfl ?_
          exact q_lawret hret dL_law_1244 hw hs
      replace hs := q_f hc33 hs
      by_cases hc34 : (v4 &&& (iI 63)) = iI 34
      · replace hs := q_t hc34 hs
        refine lv_tableIn (pc := 33) (off := 1212) (tgt := 1245) hx hb dL_law_33 (by rw [hc34]; decide) (by rw [hc34]; decide) (by rw [hc34]; decide) (by decide) ?_
        refine lv_aload_n (pc := 1245) hx hb dL_law_1245 rfl (lv_at hl 1 rfl) ?_
        refine lv_aload_n (pc := 1246) hx hb dL_law_1246 rfl (lv_at hl 0 rfl) ?_
        refine lv_iload_n (pc := 1247) hx hb dL_law_1247 rfl (lv_at hl 3 rfl) ?_
        refine lv_iconst (pc := 1248) (v := (iI 1)) hx hb dL_law_1248 rfl ?_
        refine lv_iadd (pc := 1249) hx hb dL_law_1249 ?_
        refine q_sld (pc := 1250) hx hb hX hbl hbA hw dL_law_1250 hs (fun v260 hs => ?_)
        obtain ⟨v261, h262, ev, hs⟩ := q_cal2 hs
        refine q_callV (pc := 1251) (q := 0) (As := [.int v260]) (rest := []) (rs := [.int v261]) hx hb hml hl.1 hts hown hK hSt hN hw (c_X10_count l G v260 h2 v261 h262 ev) rfl rfl cv_L_159 (rm_law hcl hsl (by decide)) rfl (Nat.le_of_ble_eq_true rfl) rfl rfl dL_law_1251 (fun H locs hw => ?_)
        refine lv_aload_n (pc := 1254) hx hb dL_law_1254 rfl (lv_at hl 2 rfl) ?_
        refine lv_aload_n (pc := 1255) hx hb dL_law_1255 rfl (lv_at hl 0 rfl) ?_
        refine lv_iload_n (pc := 1256) hx hb dL_law_1256 rfl (lv_at hl 3 rfl) ?_
        refine lv_iconst (pc := 1257) (v := (iI 1)) hx hb dL_law_1257 rfl ?_
        refine lv_iadd (pc := 1258) hx hb dL_law_1258 ?_
        refine q_sld (pc := 1259) hx hb hX hbl hbA hw dL_law_1259 hs (fun v263 hs => ?_)
        obtain ⟨v264, h265, ev, hs⟩ := q_cal2 hs
        refine q_callV (pc := 1260) (q := 72) (As := [.int v263]) (rest := [.int v261]) (rs := [.int v264, .int v261]) hx hb hml hl.1 hts hown hK hSt hN hw (c_X11_count l G v263 h262 v264 h265 ev) rfl rfl cv_L_162 (rm_law hcl hsl (by decide)) rfl (Nat.le_of_ble_eq_true rfl) rfl rfl dL_law_1260 (fun H locs hw => ?_)
        refine lv_icmp_eq (pc := 1263) (tgt := 1291) hx hb dL_law_1263 (by decide) (fun hc => ?_) (fun hc => ?_)
        · replace hs := q_t hc hs
          exact hK6 _ hs _ _ hw _ (lv_sub hl [0, 1, 2, 3] rfl)
        · replace hs := q_f hc hs
          refine lv_iconst (pc := 1266) (v := (iI 0)) hx hb dL_law_1266 rfl ?_
          exact q_lawret hret dL_law_1267 hw hs
      replace hs := q_f hc34 hs
      by_cases hc35 : (v4 &&& (iI 63)) = iI 35
      · replace hs := q_t hc35 hs
        refine lv_tableIn (pc := 33) (off := 1235) (tgt := 1268) hx hb dL_law_33 (by rw [hc35]; decide) (by rw [hc35]; decide) (by rw [hc35]; decide) (by decide) ?_
        refine lv_aload_n (pc := 1268) hx hb dL_law_1268 rfl (lv_at hl 1 rfl) ?_
        refine lv_aload_n (pc := 1269) hx hb dL_law_1269 rfl (lv_at hl 0 rfl) ?_
        refine lv_iload_n (pc := 1270) hx hb dL_law_1270 rfl (lv_at hl 3 rfl) ?_
        refine lv_iconst (pc := 1271) (v := (iI 1)) hx hb dL_law_1271 rfl ?_
        refine lv_iadd (pc := 1272) hx hb dL_law_1272 ?_
        refine q_sld (pc := 1273) hx hb hX hbl hbA hw dL_law_1273 hs (fun v266 hs => ?_)
        obtain ⟨v267, h268, ev, hs⟩ := q_cal2 hs
        refine q_callV (pc := 1274) (q := 0) (As := [.int v266]) (rest := []) (rs := [.int v267]) hx hb hml hl.1 hts hown hK hSt hN hw (c_X10_told l G v266 h2 v267 h268 ev) rfl rfl cv_L_163 (rm_law hcl hsl (by decide)) rfl (Nat.le_of_ble_eq_true rfl) rfl rfl dL_law_1274 (fun H locs hw => ?_)
        refine lv_aload_n (pc := 1277) hx hb dL_law_1277 rfl (lv_at hl 2 rfl) ?_
        refine lv_aload_n (pc := 1278) hx hb dL_law_1278 rfl (lv_at hl 0 rfl) ?_
        refine lv_iload_n (pc := 1279) hx hb dL_law_1279 rfl (lv_at hl 3 rfl) ?_
        refine lv_iconst (pc := 1280) (v := (iI 1)) hx hb dL_law_1280 rfl ?_
        refine lv_iadd (pc := 1281) hx hb dL_law_1281 ?_
        refine q_sld (pc := 1282) hx hb hX hbl hbA hw dL_law_1282 hs (fun v269 hs => ?_)
        obtain ⟨v270, h271, ev, hs⟩ := q_cal2 hs
        refine q_callV (pc := 1283) (q := 72) (As := [.int v269]) (rest := [.int v267]) (rs := [.int v270, .int v267]) hx hb hml hl.1 hts hown hK hSt hN hw (c_X11_told l G v269 h268 v270 h271 ev) rfl rfl cv_L_166 (rm_law hcl hsl (by decide)) rfl (Nat.le_of_ble_eq_true rfl) rfl rfl dL_law_1283 (fun H locs hw => ?_)
        refine lv_icmp_eq (pc := 1286) (tgt := 1291) hx hb dL_law_1286 (by decide) (fun hc => ?_) (fun hc => ?_)
        · replace hs := q_t hc hs
          exact hK6 _ hs _ _ hw _ (lv_sub hl [0, 1, 2, 3] rfl)
        · replace hs := q_f hc hs
          refine lv_iconst (pc := 1289) (v := (iI 0)) hx hb dL_law_1289 rfl ?_
          exact q_lawret hret dL_law_1290 hw hs
      replace hs := q_f hc35 hs
      refine lv_tableOut (pc := 33) (tgt := 1291) hx hb dL_law_33 (by have thc0 := toInt_ne hc0; have thc1 := toInt_ne hc1; have thc2 := toInt_ne hc2; have thc3 := toInt_ne hc3; have thc4 := toInt_ne hc4; have thc5 := toInt_ne hc5; have thc6 := toInt_ne hc6; have thc7 := toInt_ne hc7; have thc8 := toInt_ne hc8; have thc9 := toInt_ne hc9; have thc10 := toInt_ne hc10; have thc11 := toInt_ne hc11; have thc12 := toInt_ne hc12; have thc13 := toInt_ne hc13; have thc14 := toInt_ne hc14; have thc15 := toInt_ne hc15; have thc16 := toInt_ne hc16; have thc17 := toInt_ne hc17; have thc18 := toInt_ne hc18; have thc19 := toInt_ne hc19; have thc20 := toInt_ne hc20; have thc21 := toInt_ne hc21; have thc22 := toInt_ne hc22; have thc23 := toInt_ne hc23; have thc24 := toInt_ne hc24; have thc25 := toInt_ne hc25; have thc26 := toInt_ne hc26; have thc27 := toInt_ne hc27; have thc28 := toInt_ne hc28; have thc29 := toInt_ne hc29; have thc30 := toInt_ne hc30; have thc31 := toInt_ne hc31; have thc32 := toInt_ne hc32; have thc33 := toInt_ne hc33; have thc34 := toInt_ne hc34; have thc35 := toInt_ne hc35; omega) (by decide) ?_
      exact hK6 _ hs _ _ hw _ (lv_sub hl [0, 1, 2, 3] rfl)
end LAWS
