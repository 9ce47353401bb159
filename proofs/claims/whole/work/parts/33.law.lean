theorem zk_L_13 : Cond.constantLong RL 13 4294967295 ∈ lw_tbl := List.mem_of_getElem? (i := 1642) (by decide +kernel)
theorem zcv_L_15 : zq_cV RL 15 11 yX11_feed cX11_feed 5 (some .int) 2 := ⟨⟨List.mem_of_getElem? (i := 494) (by decide +kernel), List.mem_of_getElem? (i := 92) (by decide +kernel), List.mem_of_getElem? (i := 497) (by decide +kernel), by decide +kernel, by decide +kernel, by decide +kernel⟩, List.mem_of_getElem? (i := 495) (by decide +kernel), List.mem_of_getElem? (i := 496) (by decide +kernel), _, rfl, rfl⟩
theorem zcv_L_19 : zq_cV RL 19 12 yX12_feed cX12_feed 5 (some .int) 2 := ⟨⟨List.mem_of_getElem? (i := 1323) (by decide +kernel), List.mem_of_getElem? (i := 105) (by decide +kernel), List.mem_of_getElem? (i := 1326) (by decide +kernel), by decide +kernel, by decide +kernel, by decide +kernel⟩, List.mem_of_getElem? (i := 1324) (by decide +kernel), List.mem_of_getElem? (i := 1325) (by decide +kernel), _, rfl, rfl⟩
theorem zcv_L_20 : zq_cV RL 20 11 yX11_sheet cX11_sheet 3 (some .int) 0 := ⟨⟨List.mem_of_getElem? (i := 502) (by decide +kernel), List.mem_of_getElem? (i := 92) (by decide +kernel), List.mem_of_getElem? (i := 505) (by decide +kernel), by decide +kernel, by decide +kernel, by decide +kernel⟩, List.mem_of_getElem? (i := 503) (by decide +kernel), List.mem_of_getElem? (i := 504) (by decide +kernel), _, rfl, rfl⟩
theorem zcv_L_24 : zq_cV RL 24 12 yX12_sheet cX12_sheet 2 (some .int) 0 := ⟨⟨List.mem_of_getElem? (i := 1332) (by decide +kernel), List.mem_of_getElem? (i := 105) (by decide +kernel), List.mem_of_getElem? (i := 1335) (by decide +kernel), by decide +kernel, by decide +kernel, by decide +kernel⟩, List.mem_of_getElem? (i := 1333) (by decide +kernel), List.mem_of_getElem? (i := 1334) (by decide +kernel), _, rfl, rfl⟩
theorem zcv_L_25 : zq_cV RL 25 11 yX11_fault cX11_fault 1 (some .int) 0 := ⟨⟨List.mem_of_getElem? (i := 663) (by decide +kernel), List.mem_of_getElem? (i := 92) (by decide +kernel), List.mem_of_getElem? (i := 666) (by decide +kernel), by decide +kernel, by decide +kernel, by decide +kernel⟩, List.mem_of_getElem? (i := 664) (by decide +kernel), List.mem_of_getElem? (i := 665) (by decide +kernel), _, rfl, rfl⟩
theorem zcv_L_28 : zq_cV RL 28 12 yX12_fault cX12_fault 1 (some .int) 0 := ⟨⟨List.mem_of_getElem? (i := 1402) (by decide +kernel), List.mem_of_getElem? (i := 105) (by decide +kernel), List.mem_of_getElem? (i := 1405) (by decide +kernel), by decide +kernel, by decide +kernel, by decide +kernel⟩, List.mem_of_getElem? (i := 1403) (by decide +kernel), List.mem_of_getElem? (i := 1404) (by decide +kernel), _, rfl, rfl⟩
theorem zcv_L_29 : zq_cV RL 29 11 yX11_print cX11_print 2 (some .int) 1 := ⟨⟨List.mem_of_getElem? (i := 667) (by decide +kernel), List.mem_of_getElem? (i := 92) (by decide +kernel), List.mem_of_getElem? (i := 670) (by decide +kernel), by decide +kernel, by decide +kernel, by decide +kernel⟩, List.mem_of_getElem? (i := 668) (by decide +kernel), List.mem_of_getElem? (i := 669) (by decide +kernel), _, rfl, rfl⟩
theorem zcv_L_33 : zq_cV RL 33 12 yX12_print cX12_print 2 (some .int) 1 := ⟨⟨List.mem_of_getElem? (i := 1406) (by decide +kernel), List.mem_of_getElem? (i := 105) (by decide +kernel), List.mem_of_getElem? (i := 1409) (by decide +kernel), by decide +kernel, by decide +kernel, by decide +kernel⟩, List.mem_of_getElem? (i := 1407) (by decide +kernel), List.mem_of_getElem? (i := 1408) (by decide +kernel), _, rfl, rfl⟩
theorem zcv_L_34 : zq_cV RL 34 11 yX11_mark cX11_mark 3 (some .int) 2 := ⟨⟨List.mem_of_getElem? (i := 671) (by decide +kernel), List.mem_of_getElem? (i := 92) (by decide +kernel), List.mem_of_getElem? (i := 674) (by decide +kernel), by decide +kernel, by decide +kernel, by decide +kernel⟩, List.mem_of_getElem? (i := 672) (by decide +kernel), List.mem_of_getElem? (i := 673) (by decide +kernel), _, rfl, rfl⟩
theorem zcv_L_38 : zq_cV RL 38 12 yX12_mark cX12_mark 3 (some .int) 2 := ⟨⟨List.mem_of_getElem? (i := 1426) (by decide +kernel), List.mem_of_getElem? (i := 105) (by decide +kernel), List.mem_of_getElem? (i := 1429) (by decide +kernel), by decide +kernel, by decide +kernel, by decide +kernel⟩, List.mem_of_getElem? (i := 1427) (by decide +kernel), List.mem_of_getElem? (i := 1428) (by decide +kernel), _, rfl, rfl⟩
theorem zcv_L_39 : zq_cV RL 39 11 yX11_ink cX11_ink 4 (some .int) 2 := ⟨⟨List.mem_of_getElem? (i := 679) (by decide +kernel), List.mem_of_getElem? (i := 92) (by decide +kernel), List.mem_of_getElem? (i := 682) (by decide +kernel), by decide +kernel, by decide +kernel, by decide +kernel⟩, List.mem_of_getElem? (i := 680) (by decide +kernel), List.mem_of_getElem? (i := 681) (by decide +kernel), _, rfl, rfl⟩
theorem zcv_L_42 : zq_cV RL 42 12 yX12_ink cX12_ink 4 (some .int) 2 := ⟨⟨List.mem_of_getElem? (i := 1438) (by decide +kernel), List.mem_of_getElem? (i := 105) (by decide +kernel), List.mem_of_getElem? (i := 1441) (by decide +kernel), by decide +kernel, by decide +kernel, by decide +kernel⟩, List.mem_of_getElem? (i := 1439) (by decide +kernel), List.mem_of_getElem? (i := 1440) (by decide +kernel), _, rfl, rfl⟩
theorem zcv_L_43 : zq_cV RL 43 11 yX11_earlier cX11_earlier 5 (some .int) 3 := ⟨⟨List.mem_of_getElem? (i := 687) (by decide +kernel), List.mem_of_getElem? (i := 92) (by decide +kernel), List.mem_of_getElem? (i := 690) (by decide +kernel), by decide +kernel, by decide +kernel, by decide +kernel⟩, List.mem_of_getElem? (i := 688) (by decide +kernel), List.mem_of_getElem? (i := 689) (by decide +kernel), _, rfl, rfl⟩
theorem zcv_L_47 : zq_cV RL 47 12 yX12_earlier cX12_earlier 5 (some .int) 3 := ⟨⟨List.mem_of_getElem? (i := 1446) (by decide +kernel), List.mem_of_getElem? (i := 105) (by decide +kernel), List.mem_of_getElem? (i := 1449) (by decide +kernel), by decide +kernel, by decide +kernel, by decide +kernel⟩, List.mem_of_getElem? (i := 1447) (by decide +kernel), List.mem_of_getElem? (i := 1448) (by decide +kernel), _, rfl, rfl⟩
theorem zcv_L_48 : zq_cV RL 48 11 yX11_count cX11_count 2 (some .int) 1 := ⟨⟨List.mem_of_getElem? (i := 691) (by decide +kernel), List.mem_of_getElem? (i := 92) (by decide +kernel), List.mem_of_getElem? (i := 694) (by decide +kernel), by decide +kernel, by decide +kernel, by decide +kernel⟩, List.mem_of_getElem? (i := 692) (by decide +kernel), List.mem_of_getElem? (i := 693) (by decide +kernel), _, rfl, rfl⟩
theorem zcv_L_51 : zq_cV RL 51 12 yX12_count cX12_count 4 (some .int) 1 := ⟨⟨List.mem_of_getElem? (i := 1450) (by decide +kernel), List.mem_of_getElem? (i := 105) (by decide +kernel), List.mem_of_getElem? (i := 1453) (by decide +kernel), by decide +kernel, by decide +kernel, by decide +kernel⟩, List.mem_of_getElem? (i := 1451) (by decide +kernel), List.mem_of_getElem? (i := 1452) (by decide +kernel), _, rfl, rfl⟩
theorem zcv_L_52 : zq_cV RL 52 11 yX11_good cX11_good 2 (some .int) 1 := ⟨⟨List.mem_of_getElem? (i := 802) (by decide +kernel), List.mem_of_getElem? (i := 92) (by decide +kernel), List.mem_of_getElem? (i := 805) (by decide +kernel), by decide +kernel, by decide +kernel, by decide +kernel⟩, List.mem_of_getElem? (i := 803) (by decide +kernel), List.mem_of_getElem? (i := 804) (by decide +kernel), _, rfl, rfl⟩
theorem zcv_L_55 : zq_cV RL 55 12 yX12_good cX12_good 4 (some .int) 1 := ⟨⟨List.mem_of_getElem? (i := 1499) (by decide +kernel), List.mem_of_getElem? (i := 105) (by decide +kernel), List.mem_of_getElem? (i := 1502) (by decide +kernel), by decide +kernel, by decide +kernel, by decide +kernel⟩, List.mem_of_getElem? (i := 1500) (by decide +kernel), List.mem_of_getElem? (i := 1501) (by decide +kernel), _, rfl, rfl⟩
theorem zcv_L_56 : zq_cV RL 56 11 yX11_next cX11_next 3 (some .int) 1 := ⟨⟨List.mem_of_getElem? (i := 808) (by decide +kernel), List.mem_of_getElem? (i := 92) (by decide +kernel), List.mem_of_getElem? (i := 811) (by decide +kernel), by decide +kernel, by decide +kernel, by decide +kernel⟩, List.mem_of_getElem? (i := 809) (by decide +kernel), List.mem_of_getElem? (i := 810) (by decide +kernel), _, rfl, rfl⟩
theorem zcv_L_59 : zq_cV RL 59 12 yX12_next cX12_next 2 (some .int) 1 := ⟨⟨List.mem_of_getElem? (i := 1503) (by decide +kernel), List.mem_of_getElem? (i := 105) (by decide +kernel), List.mem_of_getElem? (i := 1506) (by decide +kernel), by decide +kernel, by decide +kernel, by decide +kernel⟩, List.mem_of_getElem? (i := 1504) (by decide +kernel), List.mem_of_getElem? (i := 1505) (by decide +kernel), _, rfl, rfl⟩
theorem zcv_L_60 : zq_cV RL 60 11 yX11_orders cX11_orders 1 (some .long) 0 := ⟨⟨List.mem_of_getElem? (i := 821) (by decide +kernel), List.mem_of_getElem? (i := 92) (by decide +kernel), List.mem_of_getElem? (i := 824) (by decide +kernel), by decide +kernel, by decide +kernel, by decide +kernel⟩, List.mem_of_getElem? (i := 822) (by decide +kernel), List.mem_of_getElem? (i := 823) (by decide +kernel), _, rfl, rfl⟩
theorem zcv_L_64 : zq_cV RL 64 12 yX12_orders cX12_orders 1 (some .long) 0 := ⟨⟨List.mem_of_getElem? (i := 1515) (by decide +kernel), List.mem_of_getElem? (i := 105) (by decide +kernel), List.mem_of_getElem? (i := 1518) (by decide +kernel), by decide +kernel, by decide +kernel, by decide +kernel⟩, List.mem_of_getElem? (i := 1516) (by decide +kernel), List.mem_of_getElem? (i := 1517) (by decide +kernel), _, rfl, rfl⟩
theorem zcv_L_65 : zq_cV RL 65 11 yX11_order cX11_order 4 (some .int) 2 := ⟨⟨List.mem_of_getElem? (i := 841) (by decide +kernel), List.mem_of_getElem? (i := 92) (by decide +kernel), List.mem_of_getElem? (i := 844) (by decide +kernel), by decide +kernel, by decide +kernel, by decide +kernel⟩, List.mem_of_getElem? (i := 842) (by decide +kernel), List.mem_of_getElem? (i := 843) (by decide +kernel), _, rfl, rfl⟩
theorem zcv_L_69 : zq_cV RL 69 12 yX12_order cX12_order 13 (some .int) 2 := ⟨⟨List.mem_of_getElem? (i := 1519) (by decide +kernel), List.mem_of_getElem? (i := 105) (by decide +kernel), List.mem_of_getElem? (i := 1522) (by decide +kernel), by decide +kernel, by decide +kernel, by decide +kernel⟩, List.mem_of_getElem? (i := 1520) (by decide +kernel), List.mem_of_getElem? (i := 1521) (by decide +kernel), _, rfl, rfl⟩
theorem zcv_L_70 : zq_cV RL 70 11 yX11_ahead cX11_ahead 3 (some .long) 2 := ⟨⟨List.mem_of_getElem? (i := 851) (by decide +kernel), List.mem_of_getElem? (i := 92) (by decide +kernel), List.mem_of_getElem? (i := 854) (by decide +kernel), by decide +kernel, by decide +kernel, by decide +kernel⟩, List.mem_of_getElem? (i := 852) (by decide +kernel), List.mem_of_getElem? (i := 853) (by decide +kernel), _, rfl, rfl⟩
theorem zcv_L_74 : zq_cV RL 74 12 yX12_ahead cX12_ahead 7 (some .long) 2 := ⟨⟨List.mem_of_getElem? (i := 1523) (by decide +kernel), List.mem_of_getElem? (i := 105) (by decide +kernel), List.mem_of_getElem? (i := 1526) (by decide +kernel), by decide +kernel, by decide +kernel, by decide +kernel⟩, List.mem_of_getElem? (i := 1524) (by decide +kernel), List.mem_of_getElem? (i := 1525) (by decide +kernel), _, rfl, rfl⟩
theorem zcv_L_75 : zq_cV RL 75 11 yX11_place cX11_place 3 (some .int) 2 := ⟨⟨List.mem_of_getElem? (i := 860) (by decide +kernel), List.mem_of_getElem? (i := 92) (by decide +kernel), List.mem_of_getElem? (i := 863) (by decide +kernel), by decide +kernel, by decide +kernel, by decide +kernel⟩, List.mem_of_getElem? (i := 861) (by decide +kernel), List.mem_of_getElem? (i := 862) (by decide +kernel), _, rfl, rfl⟩
theorem zcv_L_78 : zq_cV RL 78 12 yX12_place cX12_place 3 (some .int) 2 := ⟨⟨List.mem_of_getElem? (i := 1528) (by decide +kernel), List.mem_of_getElem? (i := 105) (by decide +kernel), List.mem_of_getElem? (i := 1531) (by decide +kernel), by decide +kernel, by decide +kernel, by decide +kernel⟩, List.mem_of_getElem? (i := 1529) (by decide +kernel), List.mem_of_getElem? (i := 1530) (by decide +kernel), _, rfl, rfl⟩
theorem zcv_L_79 : zq_cV RL 79 11 yX11_session cX11_session 2 (some .int) 1 := ⟨⟨List.mem_of_getElem? (i := 865) (by decide +kernel), List.mem_of_getElem? (i := 92) (by decide +kernel), List.mem_of_getElem? (i := 868) (by decide +kernel), by decide +kernel, by decide +kernel, by decide +kernel⟩, List.mem_of_getElem? (i := 866) (by decide +kernel), List.mem_of_getElem? (i := 867) (by decide +kernel), _, rfl, rfl⟩
theorem zcv_L_82 : zq_cV RL 82 12 yX12_session cX12_session 9 (some .int) 1 := ⟨⟨List.mem_of_getElem? (i := 1532) (by decide +kernel), List.mem_of_getElem? (i := 105) (by decide +kernel), List.mem_of_getElem? (i := 1535) (by decide +kernel), by decide +kernel, by decide +kernel, by decide +kernel⟩, List.mem_of_getElem? (i := 1533) (by decide +kernel), List.mem_of_getElem? (i := 1534) (by decide +kernel), _, rfl, rfl⟩
theorem zcv_L_83 : zq_cV RL 83 11 yX11_text cX11_text 4 (some .int) 2 := ⟨⟨List.mem_of_getElem? (i := 875) (by decide +kernel), List.mem_of_getElem? (i := 92) (by decide +kernel), List.mem_of_getElem? (i := 878) (by decide +kernel), by decide +kernel, by decide +kernel, by decide +kernel⟩, List.mem_of_getElem? (i := 876) (by decide +kernel), List.mem_of_getElem? (i := 877) (by decide +kernel), _, rfl, rfl⟩
theorem zcv_L_86 : zq_cV RL 86 12 yX12_text cX12_text 3 (some .int) 2 := ⟨⟨List.mem_of_getElem? (i := 1536) (by decide +kernel), List.mem_of_getElem? (i := 105) (by decide +kernel), List.mem_of_getElem? (i := 1539) (by decide +kernel), by decide +kernel, by decide +kernel, by decide +kernel⟩, List.mem_of_getElem? (i := 1537) (by decide +kernel), List.mem_of_getElem? (i := 1538) (by decide +kernel), _, rfl, rfl⟩
theorem zcv_L_87 : zq_cV RL 87 11 yX11_view cX11_view 2 (some .int) 1 := ⟨⟨List.mem_of_getElem? (i := 885) (by decide +kernel), List.mem_of_getElem? (i := 92) (by decide +kernel), List.mem_of_getElem? (i := 888) (by decide +kernel), by decide +kernel, by decide +kernel, by decide +kernel⟩, List.mem_of_getElem? (i := 886) (by decide +kernel), List.mem_of_getElem? (i := 887) (by decide +kernel), _, rfl, rfl⟩
theorem zcv_L_90 : zq_cV RL 90 12 yX12_view cX12_view 6 (some .int) 1 := ⟨⟨List.mem_of_getElem? (i := 1544) (by decide +kernel), List.mem_of_getElem? (i := 105) (by decide +kernel), List.mem_of_getElem? (i := 1547) (by decide +kernel), by decide +kernel, by decide +kernel, by decide +kernel⟩, List.mem_of_getElem? (i := 1545) (by decide +kernel), List.mem_of_getElem? (i := 1546) (by decide +kernel), _, rfl, rfl⟩
theorem zcv_L_91 : zq_cV RL 91 11 yX11_word cX11_word 3 (some .int) 2 := ⟨⟨List.mem_of_getElem? (i := 923) (by decide +kernel), List.mem_of_getElem? (i := 92) (by decide +kernel), List.mem_of_getElem? (i := 926) (by decide +kernel), by decide +kernel, by decide +kernel, by decide +kernel⟩, List.mem_of_getElem? (i := 924) (by decide +kernel), List.mem_of_getElem? (i := 925) (by decide +kernel), _, rfl, rfl⟩
theorem zcv_L_94 : zq_cV RL 94 12 yX12_word cX12_word 8 (some .int) 2 := ⟨⟨List.mem_of_getElem? (i := 1552) (by decide +kernel), List.mem_of_getElem? (i := 105) (by decide +kernel), List.mem_of_getElem? (i := 1555) (by decide +kernel), by decide +kernel, by decide +kernel, by decide +kernel⟩, List.mem_of_getElem? (i := 1553) (by decide +kernel), List.mem_of_getElem? (i := 1554) (by decide +kernel), _, rfl, rfl⟩
theorem zcv_L_95 : zq_cV RL 95 11 yX11_idle cX11_idle 3 (some .int) 0 := ⟨⟨List.mem_of_getElem? (i := 948) (by decide +kernel), List.mem_of_getElem? (i := 92) (by decide +kernel), List.mem_of_getElem? (i := 951) (by decide +kernel), by decide +kernel, by decide +kernel, by decide +kernel⟩, List.mem_of_getElem? (i := 949) (by decide +kernel), List.mem_of_getElem? (i := 950) (by decide +kernel), _, rfl, rfl⟩
theorem zcv_L_98 : zq_cV RL 98 12 yX12_idle cX12_idle 4 (some .int) 0 := ⟨⟨List.mem_of_getElem? (i := 1562) (by decide +kernel), List.mem_of_getElem? (i := 105) (by decide +kernel), List.mem_of_getElem? (i := 1565) (by decide +kernel), by decide +kernel, by decide +kernel, by decide +kernel⟩, List.mem_of_getElem? (i := 1563) (by decide +kernel), List.mem_of_getElem? (i := 1564) (by decide +kernel), _, rfl, rfl⟩
theorem zcv_L_99 : zq_cV RL 99 11 yX11_apart cX11_apart 3 (some .int) 2 := ⟨⟨List.mem_of_getElem? (i := 961) (by decide +kernel), List.mem_of_getElem? (i := 92) (by decide +kernel), List.mem_of_getElem? (i := 964) (by decide +kernel), by decide +kernel, by decide +kernel, by decide +kernel⟩, List.mem_of_getElem? (i := 962) (by decide +kernel), List.mem_of_getElem? (i := 963) (by decide +kernel), _, rfl, rfl⟩
theorem zcv_L_102 : zq_cV RL 102 12 yX12_apart cX12_apart 3 (some .int) 2 := ⟨⟨List.mem_of_getElem? (i := 1566) (by decide +kernel), List.mem_of_getElem? (i := 105) (by decide +kernel), List.mem_of_getElem? (i := 1569) (by decide +kernel), by decide +kernel, by decide +kernel, by decide +kernel⟩, List.mem_of_getElem? (i := 1567) (by decide +kernel), List.mem_of_getElem? (i := 1568) (by decide +kernel), _, rfl, rfl⟩
theorem zcv_L_103 : zq_cV RL 103 11 yX11_without cX11_without 3 (some .int) 2 := ⟨⟨List.mem_of_getElem? (i := 980) (by decide +kernel), List.mem_of_getElem? (i := 92) (by decide +kernel), List.mem_of_getElem? (i := 983) (by decide +kernel), by decide +kernel, by decide +kernel, by decide +kernel⟩, List.mem_of_getElem? (i := 981) (by decide +kernel), List.mem_of_getElem? (i := 982) (by decide +kernel), _, rfl, rfl⟩
theorem zcv_L_106 : zq_cV RL 106 12 yX12_without cX12_without 3 (some .int) 2 := ⟨⟨List.mem_of_getElem? (i := 1578) (by decide +kernel), List.mem_of_getElem? (i := 105) (by decide +kernel), List.mem_of_getElem? (i := 1581) (by decide +kernel), by decide +kernel, by decide +kernel, by decide +kernel⟩, List.mem_of_getElem? (i := 1579) (by decide +kernel), List.mem_of_getElem? (i := 1580) (by decide +kernel), _, rfl, rfl⟩
theorem zcv_L_107 : zq_cV RL 107 11 yX11_write cX11_write 2 (some .int) 1 := ⟨⟨List.mem_of_getElem? (i := 984) (by decide +kernel), List.mem_of_getElem? (i := 92) (by decide +kernel), List.mem_of_getElem? (i := 987) (by decide +kernel), by decide +kernel, by decide +kernel, by decide +kernel⟩, List.mem_of_getElem? (i := 985) (by decide +kernel), List.mem_of_getElem? (i := 986) (by decide +kernel), _, rfl, rfl⟩
theorem zcv_L_110 : zq_cV RL 110 12 yX12_write cX12_write 2 (some .int) 1 := ⟨⟨List.mem_of_getElem? (i := 1582) (by decide +kernel), List.mem_of_getElem? (i := 105) (by decide +kernel), List.mem_of_getElem? (i := 1585) (by decide +kernel), by decide +kernel, by decide +kernel, by decide +kernel⟩, List.mem_of_getElem? (i := 1583) (by decide +kernel), List.mem_of_getElem? (i := 1584) (by decide +kernel), _, rfl, rfl⟩
theorem zcv_L_111 : zq_cV RL 111 11 yX11_see cX11_see 3 (some .int) 1 := ⟨⟨List.mem_of_getElem? (i := 989) (by decide +kernel), List.mem_of_getElem? (i := 92) (by decide +kernel), List.mem_of_getElem? (i := 992) (by decide +kernel), by decide +kernel, by decide +kernel, by decide +kernel⟩, List.mem_of_getElem? (i := 990) (by decide +kernel), List.mem_of_getElem? (i := 991) (by decide +kernel), _, rfl, rfl⟩
theorem zcv_L_114 : zq_cV RL 114 12 yX12_see cX12_see 2 (some .int) 1 := ⟨⟨List.mem_of_getElem? (i := 1586) (by decide +kernel), List.mem_of_getElem? (i := 105) (by decide +kernel), List.mem_of_getElem? (i := 1589) (by decide +kernel), by decide +kernel, by decide +kernel, by decide +kernel⟩, List.mem_of_getElem? (i := 1587) (by decide +kernel), List.mem_of_getElem? (i := 1588) (by decide +kernel), _, rfl, rfl⟩
theorem zcv_L_115 : zq_cV RL 115 11 yX11_copy cX11_copy 1 (some .int) 0 := ⟨⟨List.mem_of_getElem? (i := 1000) (by decide +kernel), List.mem_of_getElem? (i := 92) (by decide +kernel), List.mem_of_getElem? (i := 1003) (by decide +kernel), by decide +kernel, by decide +kernel, by decide +kernel⟩, List.mem_of_getElem? (i := 1001) (by decide +kernel), List.mem_of_getElem? (i := 1002) (by decide +kernel), _, rfl, rfl⟩
theorem zcv_L_118 : zq_cV RL 118 12 yX12_copy cX12_copy 2 (some .int) 0 := ⟨⟨List.mem_of_getElem? (i := 1590) (by decide +kernel), List.mem_of_getElem? (i := 105) (by decide +kernel), List.mem_of_getElem? (i := 1593) (by decide +kernel), by decide +kernel, by decide +kernel, by decide +kernel⟩, List.mem_of_getElem? (i := 1591) (by decide +kernel), List.mem_of_getElem? (i := 1592) (by decide +kernel), _, rfl, rfl⟩
theorem zcv_L_119 : zq_cV RL 119 11 yX11_drop cX11_drop 1 (some .int) 0 := ⟨⟨List.mem_of_getElem? (i := 1005) (by decide +kernel), List.mem_of_getElem? (i := 92) (by decide +kernel), List.mem_of_getElem? (i := 1008) (by decide +kernel), by decide +kernel, by decide +kernel, by decide +kernel⟩, List.mem_of_getElem? (i := 1006) (by decide +kernel), List.mem_of_getElem? (i := 1007) (by decide +kernel), _, rfl, rfl⟩
theorem zcv_L_122 : zq_cV RL 122 12 yX12_drop cX12_drop 1 (some .int) 0 := ⟨⟨List.mem_of_getElem? (i := 1594) (by decide +kernel), List.mem_of_getElem? (i := 105) (by decide +kernel), List.mem_of_getElem? (i := 1597) (by decide +kernel), by decide +kernel, by decide +kernel, by decide +kernel⟩, List.mem_of_getElem? (i := 1595) (by decide +kernel), List.mem_of_getElem? (i := 1596) (by decide +kernel), _, rfl, rfl⟩
theorem zcv_L_123 : zq_cV RL 123 11 yX11_times cX11_times 3 (some .int) 2 := ⟨⟨List.mem_of_getElem? (i := 1009) (by decide +kernel), List.mem_of_getElem? (i := 92) (by decide +kernel), List.mem_of_getElem? (i := 1012) (by decide +kernel), by decide +kernel, by decide +kernel, by decide +kernel⟩, List.mem_of_getElem? (i := 1010) (by decide +kernel), List.mem_of_getElem? (i := 1011) (by decide +kernel), _, rfl, rfl⟩
theorem zcv_L_126 : zq_cV RL 126 12 yX12_times cX12_times 5 (some .int) 2 := ⟨⟨List.mem_of_getElem? (i := 1598) (by decide +kernel), List.mem_of_getElem? (i := 105) (by decide +kernel), List.mem_of_getElem? (i := 1601) (by decide +kernel), by decide +kernel, by decide +kernel, by decide +kernel⟩, List.mem_of_getElem? (i := 1599) (by decide +kernel), List.mem_of_getElem? (i := 1600) (by decide +kernel), _, rfl, rfl⟩
theorem zcv_L_127 : zq_cV RL 127 11 yX11_holds cX11_holds 1 (some .long) 0 := ⟨⟨List.mem_of_getElem? (i := 1033) (by decide +kernel), List.mem_of_getElem? (i := 92) (by decide +kernel), List.mem_of_getElem? (i := 1036) (by decide +kernel), by decide +kernel, by decide +kernel, by decide +kernel⟩, List.mem_of_getElem? (i := 1034) (by decide +kernel), List.mem_of_getElem? (i := 1035) (by decide +kernel), _, rfl, rfl⟩
theorem zcv_L_130 : zq_cV RL 130 12 yX12_holds cX12_holds 4 (some .long) 0 := ⟨⟨List.mem_of_getElem? (i := 1610) (by decide +kernel), List.mem_of_getElem? (i := 105) (by decide +kernel), List.mem_of_getElem? (i := 1613) (by decide +kernel), by decide +kernel, by decide +kernel, by decide +kernel⟩, List.mem_of_getElem? (i := 1611) (by decide +kernel), List.mem_of_getElem? (i := 1612) (by decide +kernel), _, rfl, rfl⟩
theorem zcv_L_131 : zq_cV RL 131 11 yX11_when cX11_when 3 (some .int) 2 := ⟨⟨List.mem_of_getElem? (i := 1059) (by decide +kernel), List.mem_of_getElem? (i := 92) (by decide +kernel), List.mem_of_getElem? (i := 1062) (by decide +kernel), by decide +kernel, by decide +kernel, by decide +kernel⟩, List.mem_of_getElem? (i := 1060) (by decide +kernel), List.mem_of_getElem? (i := 1061) (by decide +kernel), _, rfl, rfl⟩
theorem zcv_L_134 : zq_cV RL 134 12 yX12_when cX12_when 6 (some .int) 2 := ⟨⟨List.mem_of_getElem? (i := 1618) (by decide +kernel), List.mem_of_getElem? (i := 105) (by decide +kernel), List.mem_of_getElem? (i := 1621) (by decide +kernel), by decide +kernel, by decide +kernel, by decide +kernel⟩, List.mem_of_getElem? (i := 1619) (by decide +kernel), List.mem_of_getElem? (i := 1620) (by decide +kernel), _, rfl, rfl⟩
theorem zcv_L_135 : zq_cV RL 135 11 yX11_nearest cX11_nearest 4 (some .int) 2 := ⟨⟨List.mem_of_getElem? (i := 1080) (by decide +kernel), List.mem_of_getElem? (i := 92) (by decide +kernel), List.mem_of_getElem? (i := 1083) (by decide +kernel), by decide +kernel, by decide +kernel, by decide +kernel⟩, List.mem_of_getElem? (i := 1081) (by decide +kernel), List.mem_of_getElem? (i := 1082) (by decide +kernel), _, rfl, rfl⟩
theorem zcv_L_138 : zq_cV RL 138 12 yX12_nearest cX12_nearest 8 (some .int) 2 := ⟨⟨List.mem_of_getElem? (i := 1622) (by decide +kernel), List.mem_of_getElem? (i := 105) (by decide +kernel), List.mem_of_getElem? (i := 1625) (by decide +kernel), by decide +kernel, by decide +kernel, by decide +kernel⟩, List.mem_of_getElem? (i := 1623) (by decide +kernel), List.mem_of_getElem? (i := 1624) (by decide +kernel), _, rfl, rfl⟩
theorem zcv_L_139 : zq_cV RL 139 11 yX11_bar cX11_bar 5 (some .int) 3 := ⟨⟨List.mem_of_getElem? (i := 1089) (by decide +kernel), List.mem_of_getElem? (i := 92) (by decide +kernel), List.mem_of_getElem? (i := 1092) (by decide +kernel), by decide +kernel, by decide +kernel, by decide +kernel⟩, List.mem_of_getElem? (i := 1090) (by decide +kernel), List.mem_of_getElem? (i := 1091) (by decide +kernel), _, rfl, rfl⟩
theorem zcv_L_142 : zq_cV RL 142 12 yX12_bar cX12_bar 5 (some .int) 3 := ⟨⟨List.mem_of_getElem? (i := 1626) (by decide +kernel), List.mem_of_getElem? (i := 105) (by decide +kernel), List.mem_of_getElem? (i := 1629) (by decide +kernel), by decide +kernel, by decide +kernel, by decide +kernel⟩, List.mem_of_getElem? (i := 1627) (by decide +kernel), List.mem_of_getElem? (i := 1628) (by decide +kernel), _, rfl, rfl⟩
theorem zcv_L_143 : zq_cV RL 143 11 yX11_breaks cX11_breaks 3 (some .int) 1 := ⟨⟨List.mem_of_getElem? (i := 1098) (by decide +kernel), List.mem_of_getElem? (i := 92) (by decide +kernel), List.mem_of_getElem? (i := 1101) (by decide +kernel), by decide +kernel, by decide +kernel, by decide +kernel⟩, List.mem_of_getElem? (i := 1099) (by decide +kernel), List.mem_of_getElem? (i := 1100) (by decide +kernel), _, rfl, rfl⟩
theorem zcv_L_146 : zq_cV RL 146 12 yX12_breaks cX12_breaks 2 (some .int) 1 := ⟨⟨List.mem_of_getElem? (i := 1630) (by decide +kernel), List.mem_of_getElem? (i := 105) (by decide +kernel), List.mem_of_getElem? (i := 1633) (by decide +kernel), by decide +kernel, by decide +kernel, by decide +kernel⟩, List.mem_of_getElem? (i := 1631) (by decide +kernel), List.mem_of_getElem? (i := 1632) (by decide +kernel), _, rfl, rfl⟩
theorem zcv_L_147 : zq_cV RL 147 11 yX11_clean cX11_clean 1 (some .long) 0 := ⟨⟨List.mem_of_getElem? (i := 1103) (by decide +kernel), List.mem_of_getElem? (i := 92) (by decide +kernel), List.mem_of_getElem? (i := 1106) (by decide +kernel), by decide +kernel, by decide +kernel, by decide +kernel⟩, List.mem_of_getElem? (i := 1104) (by decide +kernel), List.mem_of_getElem? (i := 1105) (by decide +kernel), _, rfl, rfl⟩
theorem zcv_L_150 : zq_cV RL 150 12 yX12_clean cX12_clean 4 (some .long) 0 := ⟨⟨List.mem_of_getElem? (i := 1634) (by decide +kernel), List.mem_of_getElem? (i := 105) (by decide +kernel), List.mem_of_getElem? (i := 1637) (by decide +kernel), by decide +kernel, by decide +kernel, by decide +kernel⟩, List.mem_of_getElem? (i := 1635) (by decide +kernel), List.mem_of_getElem? (i := 1636) (by decide +kernel), _, rfl, rfl⟩
theorem zcv_L_151 : zq_cV RL 151 11 yX11_least cX11_least 1 (some .int) 0 := ⟨⟨List.mem_of_getElem? (i := 1113) (by decide +kernel), List.mem_of_getElem? (i := 92) (by decide +kernel), List.mem_of_getElem? (i := 1116) (by decide +kernel), by decide +kernel, by decide +kernel, by decide +kernel⟩, List.mem_of_getElem? (i := 1114) (by decide +kernel), List.mem_of_getElem? (i := 1115) (by decide +kernel), _, rfl, rfl⟩
theorem zcv_L_154 : zq_cV RL 154 12 yX12_least cX12_least 1 (some .int) 0 := ⟨⟨List.mem_of_getElem? (i := 1638) (by decide +kernel), List.mem_of_getElem? (i := 105) (by decide +kernel), List.mem_of_getElem? (i := 1641) (by decide +kernel), by decide +kernel, by decide +kernel, by decide +kernel⟩, List.mem_of_getElem? (i := 1639) (by decide +kernel), List.mem_of_getElem? (i := 1640) (by decide +kernel), _, rfl, rfl⟩
def jL_law_j1115 (N L : Nat) (xs : Nat → Int32)   (self : Int32 × zq_S → Option (Int32 × zq_S)) (w3 : Int32) (s : zq_S) : Option (Int32 × zq_S) :=
  zq_let (w3 + (4 : Int32)) (fun x5 =>
  self (x5, s))
set_option maxRecDepth 20000 in
set_option maxHeartbeats 2000000 in
theorem xL_law_j1115_j (N L : Nat) (xs : Nat → Int32)   (self : Int32 × zq_S → Option (Int32 × zq_S)) (hself : ∀ v, zq_XL L xs 18 [.ref 1000000, .ref 0, .ref 57, .int v.1] [] v.2 (self v)) (w3 : Int32) (s : zq_S) : zq_XL L xs 1115 [.ref 1000000, .ref 0, .ref 57, .int w3] [] s (jL_law_j1115 N L xs self w3 s) := by
  unfold jL_law_j1115
  refine zl_iinc (pc' := 1118) (ls' := fun x5 => [.ref 1000000, .ref 0, .ref 57, .int x5]) rfl rfl (by decide) rfl (fun _ => rfl) dL_law_1115 rfl (fun x5 => ?_)
  refine zl_lift (pc' := 18) (fun _ => zq_goto dL_law_1118 rfl) ?_
  exact hself (x5, s)
def bL_law_18 (N L : Nat) (xs : Nat → Int32)   (self : Int32 × zq_S → Option (Int32 × zq_S)) (v : Int32 × zq_S) : Option (Int32 × zq_S) :=
  if ((Int32.ofNat L) - (4 : Int32)) < v.1 then
  some ((1 : Int32), v.2)
  else
  zq_ck v.1 L (
  if ((xs (Int32.toNatClampNeg v.1)) &&& (63 : Int32)) = (0 : Int32) then
  zq_ck (v.1 + (1 : Int32)) L (
  zq_ck (v.1 + (2 : Int32)) L (
  zq_ck (v.1 + (3 : Int32)) L (
  zq_b2 (mX11_feed N (xs (Int32.toNatClampNeg (v.1 + (1 : Int32)))) (((Int32.toInt64 (xs (Int32.toNatClampNeg (v.1 + (2 : Int32))))) <<< (Int32.toInt64 (32 : Int32) &&& 63)) ||| ((Int32.toInt64 (xs (Int32.toNatClampNeg (v.1 + (3 : Int32))))) &&& (4294967295 : Int64))) v.2) (fun r1 s2 =>
  zq_ck (v.1 + (1 : Int32)) L (
  zq_ck (v.1 + (2 : Int32)) L (
  zq_ck (v.1 + (3 : Int32)) L (
  zq_b2 (mX12_feed N (xs (Int32.toNatClampNeg (v.1 + (1 : Int32)))) (((Int32.toInt64 (xs (Int32.toNatClampNeg (v.1 + (2 : Int32))))) <<< (Int32.toInt64 (32 : Int32) &&& 63)) ||| ((Int32.toInt64 (xs (Int32.toNatClampNeg (v.1 + (3 : Int32))))) &&& (4294967295 : Int64))) s2) (fun r3 s4 =>
  if r1 = r3 then
  jL_law_j1115 N L xs self v.1 s4
  else
  none))))))))
  else if ((xs (Int32.toNatClampNeg v.1)) &&& (63 : Int32)) = (1 : Int32) then
  zq_b2 (mX11_sheet N v.2) (fun r7 s8 =>
  zq_b2 (mX12_sheet N s8) (fun r9 s10 =>
  if r7 = r9 then
  jL_law_j1115 N L xs self v.1 s10
  else
  none))
  else if ((xs (Int32.toNatClampNeg v.1)) &&& (63 : Int32)) = (2 : Int32) then
  zq_b2 (mX11_fault N v.2) (fun r12 s13 =>
  zq_b2 (mX12_fault N s13) (fun r14 s15 =>
  if r12 = r14 then
  jL_law_j1115 N L xs self v.1 s15
  else
  none))
  else if ((xs (Int32.toNatClampNeg v.1)) &&& (63 : Int32)) = (3 : Int32) then
  zq_ck (v.1 + (1 : Int32)) L (
  zq_b2 (mX11_print N (xs (Int32.toNatClampNeg (v.1 + (1 : Int32)))) v.2) (fun r17 s18 =>
  zq_ck (v.1 + (1 : Int32)) L (
  zq_b2 (mX12_print N (xs (Int32.toNatClampNeg (v.1 + (1 : Int32)))) s18) (fun r19 s20 =>
  if r17 = r19 then
  jL_law_j1115 N L xs self v.1 s20
  else
  none))))
  else if ((xs (Int32.toNatClampNeg v.1)) &&& (63 : Int32)) = (4 : Int32) then
  zq_ck (v.1 + (1 : Int32)) L (
  zq_ck (v.1 + (2 : Int32)) L (
  zq_b2 (mX11_mark N (xs (Int32.toNatClampNeg (v.1 + (1 : Int32)))) (xs (Int32.toNatClampNeg (v.1 + (2 : Int32)))) v.2) (fun r22 s23 =>
  zq_ck (v.1 + (1 : Int32)) L (
  zq_ck (v.1 + (2 : Int32)) L (
  zq_b2 (mX12_mark N (xs (Int32.toNatClampNeg (v.1 + (1 : Int32)))) (xs (Int32.toNatClampNeg (v.1 + (2 : Int32)))) s23) (fun r24 s25 =>
  if r22 = r24 then
  jL_law_j1115 N L xs self v.1 s25
  else
  none))))))
  else if ((xs (Int32.toNatClampNeg v.1)) &&& (63 : Int32)) = (5 : Int32) then
  zq_ck (v.1 + (1 : Int32)) L (
  zq_ck (v.1 + (2 : Int32)) L (
  zq_b2 (mX11_ink N (xs (Int32.toNatClampNeg (v.1 + (1 : Int32)))) (xs (Int32.toNatClampNeg (v.1 + (2 : Int32)))) v.2) (fun r27 s28 =>
  zq_ck (v.1 + (1 : Int32)) L (
  zq_ck (v.1 + (2 : Int32)) L (
  zq_b2 (mX12_ink N (xs (Int32.toNatClampNeg (v.1 + (1 : Int32)))) (xs (Int32.toNatClampNeg (v.1 + (2 : Int32)))) s28) (fun r29 s30 =>
  if r27 = r29 then
  jL_law_j1115 N L xs self v.1 s30
  else
  none))))))
  else if ((xs (Int32.toNatClampNeg v.1)) &&& (63 : Int32)) = (6 : Int32) then
  zq_ck (v.1 + (1 : Int32)) L (
  zq_ck (v.1 + (2 : Int32)) L (
  zq_ck (v.1 + (3 : Int32)) L (
  zq_let (if (xs (Int32.toNatClampNeg (v.1 + (3 : Int32)))) = (0 : Int32) then (0 : Int32) else (1 : Int32)) (fun x32 =>
  zq_b2 (mX11_earlier N (xs (Int32.toNatClampNeg (v.1 + (1 : Int32)))) (xs (Int32.toNatClampNeg (v.1 + (2 : Int32)))) x32 v.2) (fun r33 s34 =>
  zq_ck (v.1 + (1 : Int32)) L (
  zq_ck (v.1 + (2 : Int32)) L (
  zq_ck (v.1 + (3 : Int32)) L (
  zq_let (if (xs (Int32.toNatClampNeg (v.1 + (3 : Int32)))) = (0 : Int32) then (0 : Int32) else (1 : Int32)) (fun x35 =>
  zq_b2 (mX12_earlier N (xs (Int32.toNatClampNeg (v.1 + (1 : Int32)))) (xs (Int32.toNatClampNeg (v.1 + (2 : Int32)))) x35 s34) (fun r36 s37 =>
  if r33 = r36 then
  jL_law_j1115 N L xs self v.1 s37
  else
  none))))))))))
  else if ((xs (Int32.toNatClampNeg v.1)) &&& (63 : Int32)) = (7 : Int32) then
  zq_ck (v.1 + (1 : Int32)) L (
  zq_b2 (mX11_count N (xs (Int32.toNatClampNeg (v.1 + (1 : Int32)))) v.2) (fun r39 s40 =>
  zq_ck (v.1 + (1 : Int32)) L (
  zq_b2 (mX12_count N (xs (Int32.toNatClampNeg (v.1 + (1 : Int32)))) s40) (fun r41 s42 =>
  if r39 = r41 then
  jL_law_j1115 N L xs self v.1 s42
  else
  none))))
  else if ((xs (Int32.toNatClampNeg v.1)) &&& (63 : Int32)) = (8 : Int32) then
  zq_ck (v.1 + (1 : Int32)) L (
  zq_b2 (mX11_good N (xs (Int32.toNatClampNeg (v.1 + (1 : Int32)))) v.2) (fun r44 s45 =>
  zq_ck (v.1 + (1 : Int32)) L (
  zq_b2 (mX12_good N (xs (Int32.toNatClampNeg (v.1 + (1 : Int32)))) s45) (fun r46 s47 =>
  if r44 = r46 then
  jL_law_j1115 N L xs self v.1 s47
  else
  none))))
  else if ((xs (Int32.toNatClampNeg v.1)) &&& (63 : Int32)) = (9 : Int32) then
  zq_ck (v.1 + (1 : Int32)) L (
  zq_b2 (mX11_next N (xs (Int32.toNatClampNeg (v.1 + (1 : Int32)))) v.2) (fun r49 s50 =>
  zq_ck (v.1 + (1 : Int32)) L (
  zq_b2 (mX12_next N (xs (Int32.toNatClampNeg (v.1 + (1 : Int32)))) s50) (fun r51 s52 =>
  if r49 = r51 then
  jL_law_j1115 N L xs self v.1 s52
  else
  none))))
  else if ((xs (Int32.toNatClampNeg v.1)) &&& (63 : Int32)) = (10 : Int32) then
  zq_b2 (mX11_orders N v.2) (fun r54 s55 =>
  zq_b2 (mX12_orders N s55) (fun r56 s57 =>
  if (lg_cmp r54 r56) = (0 : Int32) then
  jL_law_j1115 N L xs self v.1 s57
  else
  none))
  else if ((xs (Int32.toNatClampNeg v.1)) &&& (63 : Int32)) = (11 : Int32) then
  zq_ck (v.1 + (1 : Int32)) L (
  zq_ck (v.1 + (2 : Int32)) L (
  zq_ck (v.1 + (3 : Int32)) L (
  zq_b2 (mX11_order N (((Int32.toInt64 (xs (Int32.toNatClampNeg (v.1 + (1 : Int32))))) <<< (Int32.toInt64 (32 : Int32) &&& 63)) ||| ((Int32.toInt64 (xs (Int32.toNatClampNeg (v.1 + (2 : Int32))))) &&& (4294967295 : Int64))) (xs (Int32.toNatClampNeg (v.1 + (3 : Int32)))) v.2) (fun r59 s60 =>
  zq_ck (v.1 + (1 : Int32)) L (
  zq_ck (v.1 + (2 : Int32)) L (
  zq_ck (v.1 + (3 : Int32)) L (
  zq_b2 (mX12_order N (((Int32.toInt64 (xs (Int32.toNatClampNeg (v.1 + (1 : Int32))))) <<< (Int32.toInt64 (32 : Int32) &&& 63)) ||| ((Int32.toInt64 (xs (Int32.toNatClampNeg (v.1 + (2 : Int32))))) &&& (4294967295 : Int64))) (xs (Int32.toNatClampNeg (v.1 + (3 : Int32)))) s60) (fun r61 s62 =>
  if r59 = r61 then
  jL_law_j1115 N L xs self v.1 s62
  else
  none))))))))
  else if ((xs (Int32.toNatClampNeg v.1)) &&& (63 : Int32)) = (12 : Int32) then
  zq_ck (v.1 + (1 : Int32)) L (
  zq_ck (v.1 + (2 : Int32)) L (
  zq_b2 (mX11_ahead N (xs (Int32.toNatClampNeg (v.1 + (1 : Int32)))) (xs (Int32.toNatClampNeg (v.1 + (2 : Int32)))) v.2) (fun r64 s65 =>
  zq_ck (v.1 + (1 : Int32)) L (
  zq_ck (v.1 + (2 : Int32)) L (
  zq_b2 (mX12_ahead N (xs (Int32.toNatClampNeg (v.1 + (1 : Int32)))) (xs (Int32.toNatClampNeg (v.1 + (2 : Int32)))) s65) (fun r66 s67 =>
  if (lg_cmp r64 r66) = (0 : Int32) then
  jL_law_j1115 N L xs self v.1 s67
  else
  none))))))
  else if ((xs (Int32.toNatClampNeg v.1)) &&& (63 : Int32)) = (13 : Int32) then
  zq_ck (v.1 + (1 : Int32)) L (
  zq_ck (v.1 + (2 : Int32)) L (
  zq_b2 (mX11_place N (xs (Int32.toNatClampNeg (v.1 + (1 : Int32)))) (xs (Int32.toNatClampNeg (v.1 + (2 : Int32)))) v.2) (fun r69 s70 =>
  zq_ck (v.1 + (1 : Int32)) L (
  zq_ck (v.1 + (2 : Int32)) L (
  zq_b2 (mX12_place N (xs (Int32.toNatClampNeg (v.1 + (1 : Int32)))) (xs (Int32.toNatClampNeg (v.1 + (2 : Int32)))) s70) (fun r71 s72 =>
  if r69 = r71 then
  jL_law_j1115 N L xs self v.1 s72
  else
  none))))))
  else if ((xs (Int32.toNatClampNeg v.1)) &&& (63 : Int32)) = (14 : Int32) then
  zq_ck (v.1 + (1 : Int32)) L (
  zq_b2 (mX11_session N (xs (Int32.toNatClampNeg (v.1 + (1 : Int32)))) v.2) (fun r74 s75 =>
  zq_ck (v.1 + (1 : Int32)) L (
  zq_b2 (mX12_session N (xs (Int32.toNatClampNeg (v.1 + (1 : Int32)))) s75) (fun r76 s77 =>
  if r74 = r76 then
  jL_law_j1115 N L xs self v.1 s77
  else
  none))))
  else if ((xs (Int32.toNatClampNeg v.1)) &&& (63 : Int32)) = (15 : Int32) then
  zq_ck (v.1 + (1 : Int32)) L (
  zq_ck (v.1 + (2 : Int32)) L (
  zq_b2 (mX11_text N (xs (Int32.toNatClampNeg (v.1 + (1 : Int32)))) (xs (Int32.toNatClampNeg (v.1 + (2 : Int32)))) v.2) (fun r79 s80 =>
  zq_ck (v.1 + (1 : Int32)) L (
  zq_ck (v.1 + (2 : Int32)) L (
  zq_b2 (mX12_text N (xs (Int32.toNatClampNeg (v.1 + (1 : Int32)))) (xs (Int32.toNatClampNeg (v.1 + (2 : Int32)))) s80) (fun r81 s82 =>
  if r79 = r81 then
  jL_law_j1115 N L xs self v.1 s82
  else
  none))))))
  else if ((xs (Int32.toNatClampNeg v.1)) &&& (63 : Int32)) = (16 : Int32) then
  zq_ck (v.1 + (1 : Int32)) L (
  zq_b2 (mX11_view N (xs (Int32.toNatClampNeg (v.1 + (1 : Int32)))) v.2) (fun r84 s85 =>
  zq_ck (v.1 + (1 : Int32)) L (
  zq_b2 (mX12_view N (xs (Int32.toNatClampNeg (v.1 + (1 : Int32)))) s85) (fun r86 s87 =>
  if r84 = r86 then
  jL_law_j1115 N L xs self v.1 s87
  else
  none))))
  else if ((xs (Int32.toNatClampNeg v.1)) &&& (63 : Int32)) = (17 : Int32) then
  zq_ck (v.1 + (1 : Int32)) L (
  zq_ck (v.1 + (2 : Int32)) L (
  zq_b2 (mX11_word N (xs (Int32.toNatClampNeg (v.1 + (1 : Int32)))) (xs (Int32.toNatClampNeg (v.1 + (2 : Int32)))) v.2) (fun r89 s90 =>
  zq_ck (v.1 + (1 : Int32)) L (
  zq_ck (v.1 + (2 : Int32)) L (
  zq_b2 (mX12_word N (xs (Int32.toNatClampNeg (v.1 + (1 : Int32)))) (xs (Int32.toNatClampNeg (v.1 + (2 : Int32)))) s90) (fun r91 s92 =>
  if r89 = r91 then
  jL_law_j1115 N L xs self v.1 s92
  else
  none))))))
  else if ((xs (Int32.toNatClampNeg v.1)) &&& (63 : Int32)) = (18 : Int32) then
  zq_b2 (mX11_idle N v.2) (fun r94 s95 =>
  zq_b2 (mX12_idle N s95) (fun r96 s97 =>
  if r94 = r96 then
  jL_law_j1115 N L xs self v.1 s97
  else
  none))
  else if ((xs (Int32.toNatClampNeg v.1)) &&& (63 : Int32)) = (19 : Int32) then
  zq_ck (v.1 + (1 : Int32)) L (
  zq_ck (v.1 + (2 : Int32)) L (
  zq_b2 (mX11_apart N (xs (Int32.toNatClampNeg (v.1 + (1 : Int32)))) (xs (Int32.toNatClampNeg (v.1 + (2 : Int32)))) v.2) (fun r99 s100 =>
  zq_ck (v.1 + (1 : Int32)) L (
  zq_ck (v.1 + (2 : Int32)) L (
  zq_b2 (mX12_apart N (xs (Int32.toNatClampNeg (v.1 + (1 : Int32)))) (xs (Int32.toNatClampNeg (v.1 + (2 : Int32)))) s100) (fun r101 s102 =>
  if r99 = r101 then
  jL_law_j1115 N L xs self v.1 s102
  else
  none))))))
  else if ((xs (Int32.toNatClampNeg v.1)) &&& (63 : Int32)) = (20 : Int32) then
  zq_ck (v.1 + (1 : Int32)) L (
  zq_ck (v.1 + (2 : Int32)) L (
  zq_b2 (mX11_without N (xs (Int32.toNatClampNeg (v.1 + (1 : Int32)))) (xs (Int32.toNatClampNeg (v.1 + (2 : Int32)))) v.2) (fun r104 s105 =>
  zq_ck (v.1 + (1 : Int32)) L (
  zq_ck (v.1 + (2 : Int32)) L (
  zq_b2 (mX12_without N (xs (Int32.toNatClampNeg (v.1 + (1 : Int32)))) (xs (Int32.toNatClampNeg (v.1 + (2 : Int32)))) s105) (fun r106 s107 =>
  if r104 = r106 then
  jL_law_j1115 N L xs self v.1 s107
  else
  none))))))
  else if ((xs (Int32.toNatClampNeg v.1)) &&& (63 : Int32)) = (21 : Int32) then
  zq_ck (v.1 + (1 : Int32)) L (
  zq_b2 (mX11_write N (xs (Int32.toNatClampNeg (v.1 + (1 : Int32)))) v.2) (fun r109 s110 =>
  zq_ck (v.1 + (1 : Int32)) L (
  zq_b2 (mX12_write N (xs (Int32.toNatClampNeg (v.1 + (1 : Int32)))) s110) (fun r111 s112 =>
  if r109 = r111 then
  jL_law_j1115 N L xs self v.1 s112
  else
  none))))
  else if ((xs (Int32.toNatClampNeg v.1)) &&& (63 : Int32)) = (22 : Int32) then
  zq_ck (v.1 + (1 : Int32)) L (
  zq_b2 (mX11_see N (xs (Int32.toNatClampNeg (v.1 + (1 : Int32)))) v.2) (fun r114 s115 =>
  zq_ck (v.1 + (1 : Int32)) L (
  zq_b2 (mX12_see N (xs (Int32.toNatClampNeg (v.1 + (1 : Int32)))) s115) (fun r116 s117 =>
  if r114 = r116 then
  jL_law_j1115 N L xs self v.1 s117
  else
  none))))
  else if ((xs (Int32.toNatClampNeg v.1)) &&& (63 : Int32)) = (23 : Int32) then
  zq_b2 (mX11_copy N v.2) (fun r119 s120 =>
  zq_b2 (mX12_copy N s120) (fun r121 s122 =>
  if r119 = r121 then
  jL_law_j1115 N L xs self v.1 s122
  else
  none))
  else if ((xs (Int32.toNatClampNeg v.1)) &&& (63 : Int32)) = (24 : Int32) then
  zq_b2 (mX11_drop N v.2) (fun r124 s125 =>
  zq_b2 (mX12_drop N s125) (fun r126 s127 =>
  if r124 = r126 then
  jL_law_j1115 N L xs self v.1 s127
  else
  none))
  else if ((xs (Int32.toNatClampNeg v.1)) &&& (63 : Int32)) = (25 : Int32) then
  zq_ck (v.1 + (1 : Int32)) L (
  zq_ck (v.1 + (2 : Int32)) L (
  zq_b2 (mX11_times N (xs (Int32.toNatClampNeg (v.1 + (1 : Int32)))) (xs (Int32.toNatClampNeg (v.1 + (2 : Int32)))) v.2) (fun r129 s130 =>
  zq_ck (v.1 + (1 : Int32)) L (
  zq_ck (v.1 + (2 : Int32)) L (
  zq_b2 (mX12_times N (xs (Int32.toNatClampNeg (v.1 + (1 : Int32)))) (xs (Int32.toNatClampNeg (v.1 + (2 : Int32)))) s130) (fun r131 s132 =>
  if r129 = r131 then
  jL_law_j1115 N L xs self v.1 s132
  else
  none))))))
  else if ((xs (Int32.toNatClampNeg v.1)) &&& (63 : Int32)) = (26 : Int32) then
  zq_b2 (mX11_holds N v.2) (fun r134 s135 =>
  zq_b2 (mX12_holds N s135) (fun r136 s137 =>
  if (lg_cmp r134 r136) = (0 : Int32) then
  jL_law_j1115 N L xs self v.1 s137
  else
  none))
  else if ((xs (Int32.toNatClampNeg v.1)) &&& (63 : Int32)) = (27 : Int32) then
  zq_ck (v.1 + (1 : Int32)) L (
  zq_ck (v.1 + (2 : Int32)) L (
  zq_b2 (mX11_when N (xs (Int32.toNatClampNeg (v.1 + (1 : Int32)))) (xs (Int32.toNatClampNeg (v.1 + (2 : Int32)))) v.2) (fun r139 s140 =>
  zq_ck (v.1 + (1 : Int32)) L (
  zq_ck (v.1 + (2 : Int32)) L (
  zq_b2 (mX12_when N (xs (Int32.toNatClampNeg (v.1 + (1 : Int32)))) (xs (Int32.toNatClampNeg (v.1 + (2 : Int32)))) s140) (fun r141 s142 =>
  if r139 = r141 then
  jL_law_j1115 N L xs self v.1 s142
  else
  none))))))
  else if ((xs (Int32.toNatClampNeg v.1)) &&& (63 : Int32)) = (28 : Int32) then
  zq_ck (v.1 + (1 : Int32)) L (
  zq_ck (v.1 + (2 : Int32)) L (
  zq_b2 (mX11_nearest N (xs (Int32.toNatClampNeg (v.1 + (1 : Int32)))) (xs (Int32.toNatClampNeg (v.1 + (2 : Int32)))) v.2) (fun r144 s145 =>
  zq_ck (v.1 + (1 : Int32)) L (
  zq_ck (v.1 + (2 : Int32)) L (
  zq_b2 (mX12_nearest N (xs (Int32.toNatClampNeg (v.1 + (1 : Int32)))) (xs (Int32.toNatClampNeg (v.1 + (2 : Int32)))) s145) (fun r146 s147 =>
  if r144 = r146 then
  jL_law_j1115 N L xs self v.1 s147
  else
  none))))))
  else if ((xs (Int32.toNatClampNeg v.1)) &&& (63 : Int32)) = (29 : Int32) then
  zq_ck (v.1 + (1 : Int32)) L (
  zq_ck (v.1 + (2 : Int32)) L (
  zq_ck (v.1 + (3 : Int32)) L (
  zq_let (if (xs (Int32.toNatClampNeg (v.1 + (3 : Int32)))) = (0 : Int32) then (0 : Int32) else (1 : Int32)) (fun x149 =>
  zq_b2 (mX11_bar N (xs (Int32.toNatClampNeg (v.1 + (1 : Int32)))) (xs (Int32.toNatClampNeg (v.1 + (2 : Int32)))) x149 v.2) (fun r150 s151 =>
  zq_ck (v.1 + (1 : Int32)) L (
  zq_ck (v.1 + (2 : Int32)) L (
  zq_ck (v.1 + (3 : Int32)) L (
  zq_let (if (xs (Int32.toNatClampNeg (v.1 + (3 : Int32)))) = (0 : Int32) then (0 : Int32) else (1 : Int32)) (fun x152 =>
  zq_b2 (mX12_bar N (xs (Int32.toNatClampNeg (v.1 + (1 : Int32)))) (xs (Int32.toNatClampNeg (v.1 + (2 : Int32)))) x152 s151) (fun r153 s154 =>
  if r150 = r153 then
  jL_law_j1115 N L xs self v.1 s154
  else
  none))))))))))
  else if ((xs (Int32.toNatClampNeg v.1)) &&& (63 : Int32)) = (30 : Int32) then
  zq_ck (v.1 + (1 : Int32)) L (
  zq_b2 (mX11_breaks N (xs (Int32.toNatClampNeg (v.1 + (1 : Int32)))) v.2) (fun r156 s157 =>
  zq_ck (v.1 + (1 : Int32)) L (
  zq_b2 (mX12_breaks N (xs (Int32.toNatClampNeg (v.1 + (1 : Int32)))) s157) (fun r158 s159 =>
  if r156 = r158 then
  jL_law_j1115 N L xs self v.1 s159
  else
  none))))
  else if ((xs (Int32.toNatClampNeg v.1)) &&& (63 : Int32)) = (31 : Int32) then
  zq_b2 (mX11_clean N v.2) (fun r161 s162 =>
  zq_b2 (mX12_clean N s162) (fun r163 s164 =>
  if (lg_cmp r161 r163) = (0 : Int32) then
  jL_law_j1115 N L xs self v.1 s164
  else
  none))
  else if ((xs (Int32.toNatClampNeg v.1)) &&& (63 : Int32)) = (32 : Int32) then
  zq_b2 (mX11_least N v.2) (fun r166 s167 =>
  zq_b2 (mX12_least N s167) (fun r168 s169 =>
  if r166 = r168 then
  jL_law_j1115 N L xs self v.1 s169
  else
  none))
  else 
  jL_law_j1115 N L xs self v.1 v.2)
set_option maxRecDepth 20000 in
set_option maxHeartbeats 2000000 in
theorem xL_law_18 (N L : Nat) (xs : Nat → Int32)   (self : Int32 × zq_S → Option (Int32 × zq_S)) (hself : ∀ v, zq_XL L xs 18 [.ref 1000000, .ref 0, .ref 57, .int v.1] [] v.2 (self v)) (v : Int32 × zq_S) : zq_XL L xs 18 [.ref 1000000, .ref 0, .ref 57, .int v.1] [] v.2 (bL_law_18 N L xs self v) := by
  unfold bL_law_18
  refine zl_lift (pc' := 19) (fun _ => zq_iload_n rfl rfl dL_law_18 rfl) ?_
  refine zl_lift (pc' := 20) (fun _ => zq_aload_n rfl rfl dL_law_19 rfl) ?_
  refine zl_lift (pc' := 21) (fun _ => zq_slen dL_law_20 rfl) ?_
  refine zl_lift (pc' := 22) (fun _ => zq_iconst (v := 4) dL_law_21 rfl rfl) ?_
  refine zl_lift (pc' := 23) (fun _ => zq_isub dL_law_22 rfl) ?_
  refine zl_icmp_gt (pc' := 26) (tgt := 1121) dL_law_23 rfl rfl (fun hc => ?_) (fun hc => ?_)
  · refine zl_lift (pc' := 1122) (fun _ => zq_iconst (v := 1) dL_law_1121 rfl rfl) ?_
    exact zl_ret dL_law_1122
  · refine zl_lift (pc' := 27) (fun _ => zq_aload_n rfl rfl dL_law_26 rfl) ?_
    refine zl_lift (pc' := 28) (fun _ => zq_iload_n rfl rfl dL_law_27 rfl) ?_
    refine zl_sld (pc' := 29) dL_law_28 rfl ?_
    refine zl_lift (pc' := 31) (fun _ => zq_bipush (v := 63) dL_law_29 rfl rfl) ?_
    refine zl_lift (pc' := 32) (fun _ => zq_iand dL_law_31 rfl) ?_
    refine zl_ite (fun hc => ?_) (fun hn6 => ?_)
    · refine zl_tabIn (tgt := 180) hc dL_law_32 (by decide) (by decide) rfl rfl ?_
      refine zl_lift (pc' := 181) (fun _ => zq_aload_n rfl rfl dL_law_180 rfl) ?_
      refine zl_lift (pc' := 182) (fun _ => zq_aload_n rfl rfl dL_law_181 rfl) ?_
      refine zl_lift (pc' := 183) (fun _ => zq_iload_n rfl rfl dL_law_182 rfl) ?_
      refine zl_lift (pc' := 184) (fun _ => zq_iconst (v := 1) dL_law_183 rfl rfl) ?_
      refine zl_lift (pc' := 185) (fun _ => zq_iadd dL_law_184 rfl) ?_
      refine zl_sld (pc' := 186) dL_law_185 rfl ?_
      refine zl_lift (pc' := 187) (fun _ => zq_aload_n rfl rfl dL_law_186 rfl) ?_
      refine zl_lift (pc' := 188) (fun _ => zq_iload_n rfl rfl dL_law_187 rfl) ?_
      refine zl_lift (pc' := 189) (fun _ => zq_iconst (v := 2) dL_law_188 rfl rfl) ?_
      refine zl_lift (pc' := 190) (fun _ => zq_iadd dL_law_189 rfl) ?_
      refine zl_sld (pc' := 191) dL_law_190 rfl ?_
      refine zl_lift (pc' := 192) (fun _ => zq_i2l dL_law_191 rfl) ?_
      refine zl_lift (pc' := 194) (fun _ => zq_bipush (v := 32) dL_law_192 rfl rfl) ?_
      refine zl_lift (pc' := 195) (fun _ => zq_lshl dL_law_194 rfl) ?_
      refine zl_lift (pc' := 196) (fun _ => zq_aload_n rfl rfl dL_law_195 rfl) ?_
      refine zl_lift (pc' := 197) (fun _ => zq_iload_n rfl rfl dL_law_196 rfl) ?_
      refine zl_lift (pc' := 198) (fun _ => zq_iconst (v := 3) dL_law_197 rfl rfl) ?_
      refine zl_lift (pc' := 199) (fun _ => zq_iadd dL_law_198 rfl) ?_
      refine zl_sld (pc' := 200) dL_law_199 rfl ?_
      refine zl_lift (pc' := 201) (fun _ => zq_i2l dL_law_200 rfl) ?_
      refine zl_lift (pc' := 204) (fun _ => zq_ldc2 zk_L_13 dL_law_201 rfl) ?_
      refine zl_lift (pc' := 205) (fun _ => zq_land dL_law_204 rfl) ?_
      refine zl_lift (pc' := 206) (fun _ => zq_lor dL_law_205 rfl) ?_
      refine zl_cVi (pc' := 209) zcv_L_15 (cX11_feed_mc N (xs (Int32.toNatClampNeg (v.1 + (1 : Int32)))) (((Int32.toInt64 (xs (Int32.toNatClampNeg (v.1 + (2 : Int32))))) <<< (Int32.toInt64 (32 : Int32) &&& 63)) ||| ((Int32.toInt64 (xs (Int32.toNatClampNeg (v.1 + (3 : Int32))))) &&& (4294967295 : Int64))) v.2) zob_0 rfl (by decide) (Nat.le_of_ble_eq_true rfl) dL_law_206 rfl rfl (fun r1 s2 => ?_)
      refine zl_lift (pc' := 210) (fun _ => zq_aload_n rfl rfl dL_law_209 rfl) ?_
      refine zl_lift (pc' := 211) (fun _ => zq_aload_n rfl rfl dL_law_210 rfl) ?_
      refine zl_lift (pc' := 212) (fun _ => zq_iload_n rfl rfl dL_law_211 rfl) ?_
      refine zl_lift (pc' := 213) (fun _ => zq_iconst (v := 1) dL_law_212 rfl rfl) ?_
      refine zl_lift (pc' := 214) (fun _ => zq_iadd dL_law_213 rfl) ?_
      refine zl_sld (pc' := 215) dL_law_214 rfl ?_
      refine zl_lift (pc' := 216) (fun _ => zq_aload_n rfl rfl dL_law_215 rfl) ?_
      refine zl_lift (pc' := 217) (fun _ => zq_iload_n rfl rfl dL_law_216 rfl) ?_
      refine zl_lift (pc' := 218) (fun _ => zq_iconst (v := 2) dL_law_217 rfl rfl) ?_
      refine zl_lift (pc' := 219) (fun _ => zq_iadd dL_law_218 rfl) ?_
      refine zl_sld (pc' := 220) dL_law_219 rfl ?_
      refine zl_lift (pc' := 221) (fun _ => zq_i2l dL_law_220 rfl) ?_
      refine zl_lift (pc' := 223) (fun _ => zq_bipush (v := 32) dL_law_221 rfl rfl) ?_
      refine zl_lift (pc' := 224) (fun _ => zq_lshl dL_law_223 rfl) ?_
      refine zl_lift (pc' := 225) (fun _ => zq_aload_n rfl rfl dL_law_224 rfl) ?_
      refine zl_lift (pc' := 226) (fun _ => zq_iload_n rfl rfl dL_law_225 rfl) ?_
      refine zl_lift (pc' := 227) (fun _ => zq_iconst (v := 3) dL_law_226 rfl rfl) ?_
      refine zl_lift (pc' := 228) (fun _ => zq_iadd dL_law_227 rfl) ?_
      refine zl_sld (pc' := 229) dL_law_228 rfl ?_
      refine zl_lift (pc' := 230) (fun _ => zq_i2l dL_law_229 rfl) ?_
      refine zl_lift (pc' := 233) (fun _ => zq_ldc2 zk_L_13 dL_law_230 rfl) ?_
      refine zl_lift (pc' := 234) (fun _ => zq_land dL_law_233 rfl) ?_
      refine zl_lift (pc' := 235) (fun _ => zq_lor dL_law_234 rfl) ?_
      refine zl_cVi (pc' := 238) zcv_L_19 (cX12_feed_mc N (xs (Int32.toNatClampNeg (v.1 + (1 : Int32)))) (((Int32.toInt64 (xs (Int32.toNatClampNeg (v.1 + (2 : Int32))))) <<< (Int32.toInt64 (32 : Int32) &&& 63)) ||| ((Int32.toInt64 (xs (Int32.toNatClampNeg (v.1 + (3 : Int32))))) &&& (4294967295 : Int64))) s2) zob_57 rfl (by decide) (Nat.le_of_ble_eq_true rfl) dL_law_235 rfl rfl (fun r3 s4 => ?_)
      refine zl_icmp_eq (pc' := 241) (tgt := 1115) dL_law_238 rfl rfl (fun hc => ?_) (fun hc => ?_)
      · exact xL_law_j1115_j N L xs self hself v.1 s4
      · refine zl_lift (pc' := 242) (fun _ => zq_iconst (v := 0) dL_law_241 rfl rfl) ?_
        exact zl_none
    refine zl_ite (fun hc => ?_) (fun hn11 => ?_)
    · refine zl_tabIn (tgt := 243) hc dL_law_32 (by decide) (by decide) rfl rfl ?_
      refine zl_lift (pc' := 244) (fun _ => zq_aload_n rfl rfl dL_law_243 rfl) ?_
      refine zl_cVi (pc' := 247) zcv_L_20 (cX11_sheet_mc N v.2) zob_0 rfl (by decide) (Nat.le_of_ble_eq_true rfl) dL_law_244 rfl rfl (fun r7 s8 => ?_)
      refine zl_lift (pc' := 248) (fun _ => zq_aload_n rfl rfl dL_law_247 rfl) ?_
      refine zl_cVi (pc' := 251) zcv_L_24 (cX12_sheet_mc N s8) zob_57 rfl (by decide) (Nat.le_of_ble_eq_true rfl) dL_law_248 rfl rfl (fun r9 s10 => ?_)
      refine zl_icmp_eq (pc' := 254) (tgt := 1115) dL_law_251 rfl rfl (fun hc => ?_) (fun hc => ?_)
      · exact xL_law_j1115_j N L xs self hself v.1 s10
      · refine zl_lift (pc' := 255) (fun _ => zq_iconst (v := 0) dL_law_254 rfl rfl) ?_
        exact zl_none
    refine zl_ite (fun hc => ?_) (fun hn16 => ?_)
    · refine zl_tabIn (tgt := 256) hc dL_law_32 (by decide) (by decide) rfl rfl ?_
      refine zl_lift (pc' := 257) (fun _ => zq_aload_n rfl rfl dL_law_256 rfl) ?_
      refine zl_cVi (pc' := 260) zcv_L_25 (cX11_fault_mc N v.2) zob_0 rfl (by decide) (Nat.le_of_ble_eq_true rfl) dL_law_257 rfl rfl (fun r12 s13 => ?_)
      refine zl_lift (pc' := 261) (fun _ => zq_aload_n rfl rfl dL_law_260 rfl) ?_
      refine zl_cVi (pc' := 264) zcv_L_28 (cX12_fault_mc N s13) zob_57 rfl (by decide) (Nat.le_of_ble_eq_true rfl) dL_law_261 rfl rfl (fun r14 s15 => ?_)
      refine zl_icmp_eq (pc' := 267) (tgt := 1115) dL_law_264 rfl rfl (fun hc => ?_) (fun hc => ?_)
      · exact xL_law_j1115_j N L xs self hself v.1 s15
      · refine zl_lift (pc' := 268) (fun _ => zq_iconst (v := 0) dL_law_267 rfl rfl) ?_
        exact zl_none
    refine zl_ite (fun hc => ?_) (fun hn21 => ?_)
    · refine zl_tabIn (tgt := 269) hc dL_law_32 (by decide) (by decide) rfl rfl ?_
      refine zl_lift (pc' := 270) (fun _ => zq_aload_n rfl rfl dL_law_269 rfl) ?_
      refine zl_lift (pc' := 271) (fun _ => zq_aload_n rfl rfl dL_law_270 rfl) ?_
      refine zl_lift (pc' := 272) (fun _ => zq_iload_n rfl rfl dL_law_271 rfl) ?_
      refine zl_lift (pc' := 273) (fun _ => zq_iconst (v := 1) dL_law_272 rfl rfl) ?_
      refine zl_lift (pc' := 274) (fun _ => zq_iadd dL_law_273 rfl) ?_
      refine zl_sld (pc' := 275) dL_law_274 rfl ?_
      refine zl_cVi (pc' := 278) zcv_L_29 (cX11_print_mc N (xs (Int32.toNatClampNeg (v.1 + (1 : Int32)))) v.2) zob_0 rfl (by decide) (Nat.le_of_ble_eq_true rfl) dL_law_275 rfl rfl (fun r17 s18 => ?_)
      refine zl_lift (pc' := 279) (fun _ => zq_aload_n rfl rfl dL_law_278 rfl) ?_
      refine zl_lift (pc' := 280) (fun _ => zq_aload_n rfl rfl dL_law_279 rfl) ?_
      refine zl_lift (pc' := 281) (fun _ => zq_iload_n rfl rfl dL_law_280 rfl) ?_
      refine zl_lift (pc' := 282) (fun _ => zq_iconst (v := 1) dL_law_281 rfl rfl) ?_
      refine zl_lift (pc' := 283) (fun _ => zq_iadd dL_law_282 rfl) ?_
      refine zl_sld (pc' := 284) dL_law_283 rfl ?_
      refine zl_cVi (pc' := 287) zcv_L_33 (cX12_print_mc N (xs (Int32.toNatClampNeg (v.1 + (1 : Int32)))) s18) zob_57 rfl (by decide) (Nat.le_of_ble_eq_true rfl) dL_law_284 rfl rfl (fun r19 s20 => ?_)
      refine zl_icmp_eq (pc' := 290) (tgt := 1115) dL_law_287 rfl rfl (fun hc => ?_) (fun hc => ?_)
      · exact xL_law_j1115_j N L xs self hself v.1 s20
      · refine zl_lift (pc' := 291) (fun _ => zq_iconst (v := 0) dL_law_290 rfl rfl) ?_
        exact zl_none
    refine zl_ite (fun hc => ?_) (fun hn26 => ?_)
    · refine zl_tabIn (tgt := 292) hc dL_law_32 (by decide) (by decide) rfl rfl ?_
      refine zl_lift (pc' := 293) (fun _ => zq_aload_n rfl rfl dL_law_292 rfl) ?_
      refine zl_lift (pc' := 294) (fun _ => zq_aload_n rfl rfl dL_law_293 rfl) ?_
      refine zl_lift (pc' := 295) (fun _ => zq_iload_n rfl rfl dL_law_294 rfl) ?_
      refine zl_lift (pc' := 296) (fun _ => zq_iconst (v := 1) dL_law_295 rfl rfl) ?_
      refine zl_lift (pc' := 297) (fun _ => zq_iadd dL_law_296 rfl) ?_
      refine zl_sld (pc' := 298) dL_law_297 rfl ?_
      refine zl_lift (pc' := 299) (fun _ => zq_aload_n rfl rfl dL_law_298 rfl) ?_
      refine zl_lift (pc' := 300) (fun _ => zq_iload_n rfl rfl dL_law_299 rfl) ?_
      refine zl_lift (pc' := 301) (fun _ => zq_iconst (v := 2) dL_law_300 rfl rfl) ?_
      refine zl_lift (pc' := 302) (fun _ => zq_iadd dL_law_301 rfl) ?_
      refine zl_sld (pc' := 303) dL_law_302 rfl ?_
      refine zl_cVi (pc' := 306) zcv_L_34 (cX11_mark_mc N (xs (Int32.toNatClampNeg (v.1 + (1 : Int32)))) (xs (Int32.toNatClampNeg (v.1 + (2 : Int32)))) v.2) zob_0 rfl (by decide) (Nat.le_of_ble_eq_true rfl) dL_law_303 rfl rfl (fun r22 s23 => ?_)
      refine zl_lift (pc' := 307) (fun _ => zq_aload_n rfl rfl dL_law_306 rfl) ?_
      refine zl_lift (pc' := 308) (fun _ => zq_aload_n rfl rfl dL_law_307 rfl) ?_
      refine zl_lift (pc' := 309) (fun _ => zq_iload_n rfl rfl dL_law_308 rfl) ?_
      refine zl_lift (pc' := 310) (fun _ => zq_iconst (v := 1) dL_law_309 rfl rfl) ?_
      refine zl_lift (pc' := 311) (fun _ => zq_iadd dL_law_310 rfl) ?_
      refine zl_sld (pc' := 312) dL_law_311 rfl ?_
      refine zl_lift (pc' := 313) (fun _ => zq_aload_n rfl rfl dL_law_312 rfl) ?_
      refine zl_lift (pc' := 314) (fun _ => zq_iload_n rfl rfl dL_law_313 rfl) ?_
      refine zl_lift (pc' := 315) (fun _ => zq_iconst (v := 2) dL_law_314 rfl rfl) ?_
      refine zl_lift (pc' := 316) (fun _ => zq_iadd dL_law_315 rfl) ?_
      refine zl_sld (pc' := 317) dL_law_316 rfl ?_
      refine zl_cVi (pc' := 320) zcv_L_38 (cX12_mark_mc N (xs (Int32.toNatClampNeg (v.1 + (1 : Int32)))) (xs (Int32.toNatClampNeg (v.1 + (2 : Int32)))) s23) zob_57 rfl (by decide) (Nat.le_of_ble_eq_true rfl) dL_law_317 rfl rfl (fun r24 s25 => ?_)
      refine zl_icmp_eq (pc' := 323) (tgt := 1115) dL_law_320 rfl rfl (fun hc => ?_) (fun hc => ?_)
      · exact xL_law_j1115_j N L xs self hself v.1 s25
      · refine zl_lift (pc' := 324) (fun _ => zq_iconst (v := 0) dL_law_323 rfl rfl) ?_
        exact zl_none
    refine zl_ite (fun hc => ?_) (fun hn31 => ?_)
    · refine zl_tabIn (tgt := 325) hc dL_law_32 (by decide) (by decide) rfl rfl ?_
      refine zl_lift (pc' := 326) (fun _ => zq_aload_n rfl rfl dL_law_325 rfl) ?_
      refine zl_lift (pc' := 327) (fun _ => zq_aload_n rfl rfl dL_law_326 rfl) ?_
      refine zl_lift (pc' := 328) (fun _ => zq_iload_n rfl rfl dL_law_327 rfl) ?_
      refine zl_lift (pc' := 329) (fun _ => zq_iconst (v := 1) dL_law_328 rfl rfl) ?_
      refine zl_lift (pc' := 330) (fun _ => zq_iadd dL_law_329 rfl) ?_
      refine zl_sld (pc' := 331) dL_law_330 rfl ?_
      refine zl_lift (pc' := 332) (fun _ => zq_aload_n rfl rfl dL_law_331 rfl) ?_
      refine zl_lift (pc' := 333) (fun _ => zq_iload_n rfl rfl dL_law_332 rfl) ?_
      refine zl_lift (pc' := 334) (fun _ => zq_iconst (v := 2) dL_law_333 rfl rfl) ?_
      refine zl_lift (pc' := 335) (fun _ => zq_iadd dL_law_334 rfl) ?_
      refine zl_sld (pc' := 336) dL_law_335 rfl ?_
      refine zl_cVi (pc' := 339) zcv_L_39 (cX11_ink_mc N (xs (Int32.toNatClampNeg (v.1 + (1 : Int32)))) (xs (Int32.toNatClampNeg (v.1 + (2 : Int32)))) v.2) zob_0 rfl (by decide) (Nat.le_of_ble_eq_true rfl) dL_law_336 rfl rfl (fun r27 s28 => ?_)
      refine zl_lift (pc' := 340) (fun _ => zq_aload_n rfl rfl dL_law_339 rfl) ?_
      refine zl_lift (pc' := 341) (fun _ => zq_aload_n rfl rfl dL_law_340 rfl) ?_
      refine zl_lift (pc' := 342) (fun _ => zq_iload_n rfl rfl dL_law_341 rfl) ?_
      refine zl_lift (pc' := 343) (fun _ => zq_iconst (v := 1) dL_law_342 rfl rfl) ?_
      refine zl_lift (pc' := 344) (fun _ => zq_iadd dL_law_343 rfl) ?_
      refine zl_sld (pc' := 345) dL_law_344 rfl ?_
      refine zl_lift (pc' := 346) (fun _ => zq_aload_n rfl rfl dL_law_345 rfl) ?_
      refine zl_lift (pc' := 347) (fun _ => zq_iload_n rfl rfl dL_law_346 rfl) ?_
      refine zl_lift (pc' := 348) (fun _ => zq_iconst (v := 2) dL_law_347 rfl rfl) ?_
      refine zl_lift (pc' := 349) (fun _ => zq_iadd dL_law_348 rfl) ?_
      refine zl_sld (pc' := 350) dL_law_349 rfl ?_
      refine zl_cVi (pc' := 353) zcv_L_42 (cX12_ink_mc N (xs (Int32.toNatClampNeg (v.1 + (1 : Int32)))) (xs (Int32.toNatClampNeg (v.1 + (2 : Int32)))) s28) zob_57 rfl (by decide) (Nat.le_of_ble_eq_true rfl) dL_law_350 rfl rfl (fun r29 s30 => ?_)
      refine zl_icmp_eq (pc' := 356) (tgt := 1115) dL_law_353 rfl rfl (fun hc => ?_) (fun hc => ?_)
      · exact xL_law_j1115_j N L xs self hself v.1 s30
      · refine zl_lift (pc' := 357) (fun _ => zq_iconst (v := 0) dL_law_356 rfl rfl) ?_
        exact zl_none
    refine zl_ite (fun hc => ?_) (fun hn38 => ?_)
    · refine zl_tabIn (tgt := 358) hc dL_law_32 (by decide) (by decide) rfl rfl ?_
      refine zl_lift (pc' := 359) (fun _ => zq_aload_n rfl rfl dL_law_358 rfl) ?_
      refine zl_lift (pc' := 360) (fun _ => zq_aload_n rfl rfl dL_law_359 rfl) ?_
      refine zl_lift (pc' := 361) (fun _ => zq_iload_n rfl rfl dL_law_360 rfl) ?_
      refine zl_lift (pc' := 362) (fun _ => zq_iconst (v := 1) dL_law_361 rfl rfl) ?_
      refine zl_lift (pc' := 363) (fun _ => zq_iadd dL_law_362 rfl) ?_
      refine zl_sld (pc' := 364) dL_law_363 rfl ?_
      refine zl_lift (pc' := 365) (fun _ => zq_aload_n rfl rfl dL_law_364 rfl) ?_
      refine zl_lift (pc' := 366) (fun _ => zq_iload_n rfl rfl dL_law_365 rfl) ?_
      refine zl_lift (pc' := 367) (fun _ => zq_iconst (v := 2) dL_law_366 rfl rfl) ?_
      refine zl_lift (pc' := 368) (fun _ => zq_iadd dL_law_367 rfl) ?_
      refine zl_sld (pc' := 369) dL_law_368 rfl ?_
      refine zl_lift (pc' := 370) (fun _ => zq_aload_n rfl rfl dL_law_369 rfl) ?_
      refine zl_lift (pc' := 371) (fun _ => zq_iload_n rfl rfl dL_law_370 rfl) ?_
      refine zl_lift (pc' := 372) (fun _ => zq_iconst (v := 3) dL_law_371 rfl rfl) ?_
      refine zl_lift (pc' := 373) (fun _ => zq_iadd dL_law_372 rfl) ?_
      refine zl_sld (pc' := 374) dL_law_373 rfl ?_
      refine zl_tern (pcJ := 382) (lsJ := fun x32 => [.ref 1000000, .ref 0, .ref 57, .int v.1]) (stJ := fun x32 => [.int x32, .int (xs (Int32.toNatClampNeg (v.1 + (2 : Int32)))), .int (xs (Int32.toNatClampNeg (v.1 + (1 : Int32)))), .ref 0]) (fun x32 => ?_) (fun f hJ => ?_)
      rotate_left
      · refine zl_lif_eq (pc' := 377) (tgt := 381) dL_law_374 rfl rfl (fun _ => ?_) (fun _ => ?_)
        · refine zl_lift (pc' := 382) (fun _ => zq_iconst (v := 0) dL_law_381 rfl rfl) ?_
          exact zl_lessJ (zq_cr (zq_cr (zq_cr (zq_cr zq_cn)))) (hJ _)
        · refine zl_lift (pc' := 378) (fun _ => zq_iconst (v := 1) dL_law_377 rfl rfl) ?_
          refine zl_lift (pc' := 382) (fun _ => zq_goto dL_law_378 rfl) ?_
          exact zl_lessJ (zq_cr (zq_cr (zq_cr (zq_cr zq_cn)))) (hJ _)
      refine zl_cVi (pc' := 385) zcv_L_43 (cX11_earlier_mc N (xs (Int32.toNatClampNeg (v.1 + (1 : Int32)))) (xs (Int32.toNatClampNeg (v.1 + (2 : Int32)))) x32 v.2) zob_0 rfl (by decide) (Nat.le_of_ble_eq_true rfl) dL_law_382 rfl rfl (fun r33 s34 => ?_)
      refine zl_lift (pc' := 386) (fun _ => zq_aload_n rfl rfl dL_law_385 rfl) ?_
      refine zl_lift (pc' := 387) (fun _ => zq_aload_n rfl rfl dL_law_386 rfl) ?_
      refine zl_lift (pc' := 388) (fun _ => zq_iload_n rfl rfl dL_law_387 rfl) ?_
      refine zl_lift (pc' := 389) (fun _ => zq_iconst (v := 1) dL_law_388 rfl rfl) ?_
      refine zl_lift (pc' := 390) (fun _ => zq_iadd dL_law_389 rfl) ?_
      refine zl_sld (pc' := 391) dL_law_390 rfl ?_
      refine zl_lift (pc' := 392) (fun _ => zq_aload_n rfl rfl dL_law_391 rfl) ?_
      refine zl_lift (pc' := 393) (fun _ => zq_iload_n rfl rfl dL_law_392 rfl) ?_
      refine zl_lift (pc' := 394) (fun _ => zq_iconst (v := 2) dL_law_393 rfl rfl) ?_
      refine zl_lift (pc' := 395) (fun _ => zq_iadd dL_law_394 rfl) ?_
      refine zl_sld (pc' := 396) dL_law_395 rfl ?_
      refine zl_lift (pc' := 397) (fun _ => zq_aload_n rfl rfl dL_law_396 rfl) ?_
      refine zl_lift (pc' := 398) (fun _ => zq_iload_n rfl rfl dL_law_397 rfl) ?_
      refine zl_lift (pc' := 399) (fun _ => zq_iconst (v := 3) dL_law_398 rfl rfl) ?_
      refine zl_lift (pc' := 400) (fun _ => zq_iadd dL_law_399 rfl) ?_
      refine zl_sld (pc' := 401) dL_law_400 rfl ?_
      refine zl_tern (pcJ := 409) (lsJ := fun x35 => [.ref 1000000, .ref 0, .ref 57, .int v.1]) (stJ := fun x35 => [.int x35, .int (xs (Int32.toNatClampNeg (v.1 + (2 : Int32)))), .int (xs (Int32.toNatClampNeg (v.1 + (1 : Int32)))), .ref 57, .int r33]) (fun x35 => ?_) (fun f hJ => ?_)
      rotate_left
      · refine zl_lif_eq (pc' := 404) (tgt := 408) dL_law_401 rfl rfl (fun _ => ?_) (fun _ => ?_)
        · refine zl_lift (pc' := 409) (fun _ => zq_iconst (v := 0) dL_law_408 rfl rfl) ?_
          exact zl_lessJ (zq_cr (zq_cr (zq_cr (zq_cr zq_cn)))) (hJ _)
        · refine zl_lift (pc' := 405) (fun _ => zq_iconst (v := 1) dL_law_404 rfl rfl) ?_
          refine zl_lift (pc' := 409) (fun _ => zq_goto dL_law_405 rfl) ?_
          exact zl_lessJ (zq_cr (zq_cr (zq_cr (zq_cr zq_cn)))) (hJ _)
      refine zl_cVi (pc' := 412) zcv_L_47 (cX12_earlier_mc N (xs (Int32.toNatClampNeg (v.1 + (1 : Int32)))) (xs (Int32.toNatClampNeg (v.1 + (2 : Int32)))) x35 s34) zob_57 rfl (by decide) (Nat.le_of_ble_eq_true rfl) dL_law_409 rfl rfl (fun r36 s37 => ?_)
      refine zl_icmp_eq (pc' := 415) (tgt := 1115) dL_law_412 rfl rfl (fun hc => ?_) (fun hc => ?_)
      · exact xL_law_j1115_j N L xs self hself v.1 s37
      · refine zl_lift (pc' := 416) (fun _ => zq_iconst (v := 0) dL_law_415 rfl rfl) ?_
        exact zl_none
    refine zl_ite (fun hc => ?_) (fun hn43 => ?_)
    · refine zl_tabIn (tgt := 417) hc dL_law_32 (by decide) (by decide) rfl rfl ?_
      refine zl_lift (pc' := 418) (fun _ => zq_aload_n rfl rfl dL_law_417 rfl) ?_
      refine zl_lift (pc' := 419) (fun _ => zq_aload_n rfl rfl dL_law_418 rfl) ?_
      refine zl_lift (pc' := 420) (fun _ => zq_iload_n rfl rfl dL_law_419 rfl) ?_
      refine zl_lift (pc' := 421) (fun _ => zq_iconst (v := 1) dL_law_420 rfl rfl) ?_
      refine zl_lift (pc' := 422) (fun _ => zq_iadd dL_law_421 rfl) ?_
      refine zl_sld (pc' := 423) dL_law_422 rfl ?_
      refine zl_cVi (pc' := 426) zcv_L_48 (cX11_count_mc N (xs (Int32.toNatClampNeg (v.1 + (1 : Int32)))) v.2) zob_0 rfl (by decide) (Nat.le_of_ble_eq_true rfl) dL_law_423 rfl rfl (fun r39 s40 => ?_)
      refine zl_lift (pc' := 427) (fun _ => zq_aload_n rfl rfl dL_law_426 rfl) ?_
      refine zl_lift (pc' := 428) (fun _ => zq_aload_n rfl rfl dL_law_427 rfl) ?_
      refine zl_lift (pc' := 429) (fun _ => zq_iload_n rfl rfl dL_law_428 rfl) ?_
      refine zl_lift (pc' := 430) (fun _ => zq_iconst (v := 1) dL_law_429 rfl rfl) ?_
      refine zl_lift (pc' := 431) (fun _ => zq_iadd dL_law_430 rfl) ?_
      refine zl_sld (pc' := 432) dL_law_431 rfl ?_
      refine zl_cVi (pc' := 435) zcv_L_51 (cX12_count_mc N (xs (Int32.toNatClampNeg (v.1 + (1 : Int32)))) s40) zob_57 rfl (by decide) (Nat.le_of_ble_eq_true rfl) dL_law_432 rfl rfl (fun r41 s42 => ?_)
      refine zl_icmp_eq (pc' := 438) (tgt := 1115) dL_law_435 rfl rfl (fun hc => ?_) (fun hc => ?_)
      · exact xL_law_j1115_j N L xs self hself v.1 s42
      · refine zl_lift (pc' := 439) (fun _ => zq_iconst (v := 0) dL_law_438 rfl rfl) ?_
        exact zl_none
    refine zl_ite (fun hc => ?_) (fun hn48 => ?_)
    · refine zl_tabIn (tgt := 440) hc dL_law_32 (by decide) (by decide) rfl rfl ?_
      refine zl_lift (pc' := 441) (fun _ => zq_aload_n rfl rfl dL_law_440 rfl) ?_
      refine zl_lift (pc' := 442) (fun _ => zq_aload_n rfl rfl dL_law_441 rfl) ?_
      refine zl_lift (pc' := 443) (fun _ => zq_iload_n rfl rfl dL_law_442 rfl) ?_
      refine zl_lift (pc' := 444) (fun _ => zq_iconst (v := 1) dL_law_443 rfl rfl) ?_
      refine zl_lift (pc' := 445) (fun _ => zq_iadd dL_law_444 rfl) ?_
      refine zl_sld (pc' := 446) dL_law_445 rfl ?_
      refine zl_cVi (pc' := 449) zcv_L_52 (cX11_good_mc N (xs (Int32.toNatClampNeg (v.1 + (1 : Int32)))) v.2) zob_0 rfl (by decide) (Nat.le_of_ble_eq_true rfl) dL_law_446 rfl rfl (fun r44 s45 => ?_)
      refine zl_lift (pc' := 450) (fun _ => zq_aload_n rfl rfl dL_law_449 rfl) ?_
      refine zl_lift (pc' := 451) (fun _ => zq_aload_n rfl rfl dL_law_450 rfl) ?_
      refine zl_lift (pc' := 452) (fun _ => zq_iload_n rfl rfl dL_law_451 rfl) ?_
      refine zl_lift (pc' := 453) (fun _ => zq_iconst (v := 1) dL_law_452 rfl rfl) ?_
      refine zl_lift (pc' := 454) (fun _ => zq_iadd dL_law_453 rfl) ?_
      refine zl_sld (pc' := 455) dL_law_454 rfl ?_
      refine zl_cVi (pc' := 458) zcv_L_55 (cX12_good_mc N (xs (Int32.toNatClampNeg (v.1 + (1 : Int32)))) s45) zob_57 rfl (by decide) (Nat.le_of_ble_eq_true rfl) dL_law_455 rfl rfl (fun r46 s47 => ?_)
      refine zl_icmp_eq (pc' := 461) (tgt := 1115) dL_law_458 rfl rfl (fun hc => ?_) (fun hc => ?_)
      · exact xL_law_j1115_j N L xs self hself v.1 s47
      · refine zl_lift (pc' := 462) (fun _ => zq_iconst (v := 0) dL_law_461 rfl rfl) ?_
        exact zl_none
    refine zl_ite (fun hc => ?_) (fun hn53 => ?_)
    · refine zl_tabIn (tgt := 463) hc dL_law_32 (by decide) (by decide) rfl rfl ?_
      refine zl_lift (pc' := 464) (fun _ => zq_aload_n rfl rfl dL_law_463 rfl) ?_
      refine zl_lift (pc' := 465) (fun _ => zq_aload_n rfl rfl dL_law_464 rfl) ?_
      refine zl_lift (pc' := 466) (fun _ => zq_iload_n rfl rfl dL_law_465 rfl) ?_
      refine zl_lift (pc' := 467) (fun _ => zq_iconst (v := 1) dL_law_466 rfl rfl) ?_
      refine zl_lift (pc' := 468) (fun _ => zq_iadd dL_law_467 rfl) ?_
      refine zl_sld (pc' := 469) dL_law_468 rfl ?_
      refine zl_cVi (pc' := 472) zcv_L_56 (cX11_next_mc N (xs (Int32.toNatClampNeg (v.1 + (1 : Int32)))) v.2) zob_0 rfl (by decide) (Nat.le_of_ble_eq_true rfl) dL_law_469 rfl rfl (fun r49 s50 => ?_)
      refine zl_lift (pc' := 473) (fun _ => zq_aload_n rfl rfl dL_law_472 rfl) ?_
      refine zl_lift (pc' := 474) (fun _ => zq_aload_n rfl rfl dL_law_473 rfl) ?_
      refine zl_lift (pc' := 475) (fun _ => zq_iload_n rfl rfl dL_law_474 rfl) ?_
      refine zl_lift (pc' := 476) (fun _ => zq_iconst (v := 1) dL_law_475 rfl rfl) ?_
      refine zl_lift (pc' := 477) (fun _ => zq_iadd dL_law_476 rfl) ?_
      refine zl_sld (pc' := 478) dL_law_477 rfl ?_
      refine zl_cVi (pc' := 481) zcv_L_59 (cX12_next_mc N (xs (Int32.toNatClampNeg (v.1 + (1 : Int32)))) s50) zob_57 rfl (by decide) (Nat.le_of_ble_eq_true rfl) dL_law_478 rfl rfl (fun r51 s52 => ?_)
      refine zl_icmp_eq (pc' := 484) (tgt := 1115) dL_law_481 rfl rfl (fun hc => ?_) (fun hc => ?_)
      · exact xL_law_j1115_j N L xs self hself v.1 s52
      · refine zl_lift (pc' := 485) (fun _ => zq_iconst (v := 0) dL_law_484 rfl rfl) ?_
        exact zl_none
    refine zl_ite (fun hc => ?_) (fun hn58 => ?_)
    · refine zl_tabIn (tgt := 486) hc dL_law_32 (by decide) (by decide) rfl rfl ?_
      refine zl_lift (pc' := 487) (fun _ => zq_aload_n rfl rfl dL_law_486 rfl) ?_
      refine zl_cVl (pc' := 490) zcv_L_60 (cX11_orders_mc N v.2) zob_0 rfl (by decide) (Nat.le_of_ble_eq_true rfl) dL_law_487 rfl rfl (fun r54 s55 => ?_)
      refine zl_lift (pc' := 491) (fun _ => zq_aload_n rfl rfl dL_law_490 rfl) ?_
      refine zl_cVl (pc' := 494) zcv_L_64 (cX12_orders_mc N s55) zob_57 rfl (by decide) (Nat.le_of_ble_eq_true rfl) dL_law_491 rfl rfl (fun r56 s57 => ?_)
      refine zl_lift (pc' := 495) (fun _ => zq_lcmp dL_law_494 rfl) ?_
      refine zl_if_eq (pc' := 498) (tgt := 1115) dL_law_495 rfl rfl (fun hc => ?_) (fun hc => ?_)
      · exact xL_law_j1115_j N L xs self hself v.1 s57
      · refine zl_lift (pc' := 499) (fun _ => zq_iconst (v := 0) dL_law_498 rfl rfl) ?_
        exact zl_none
    refine zl_ite (fun hc => ?_) (fun hn63 => ?_)
    · refine zl_tabIn (tgt := 500) hc dL_law_32 (by decide) (by decide) rfl rfl ?_
      refine zl_lift (pc' := 501) (fun _ => zq_aload_n rfl rfl dL_law_500 rfl) ?_
      refine zl_lift (pc' := 502) (fun _ => zq_aload_n rfl rfl dL_law_501 rfl) ?_
      refine zl_lift (pc' := 503) (fun _ => zq_iload_n rfl rfl dL_law_502 rfl) ?_
      refine zl_lift (pc' := 504) (fun _ => zq_iconst (v := 1) dL_law_503 rfl rfl) ?_
      refine zl_lift (pc' := 505) (fun _ => zq_iadd dL_law_504 rfl) ?_
      refine zl_sld (pc' := 506) dL_law_505 rfl ?_
      refine zl_lift (pc' := 507) (fun _ => zq_i2l dL_law_506 rfl) ?_
      refine zl_lift (pc' := 509) (fun _ => zq_bipush (v := 32) dL_law_507 rfl rfl) ?_
      refine zl_lift (pc' := 510) (fun _ => zq_lshl dL_law_509 rfl) ?_
      refine zl_lift (pc' := 511) (fun _ => zq_aload_n rfl rfl dL_law_510 rfl) ?_
      refine zl_lift (pc' := 512) (fun _ => zq_iload_n rfl rfl dL_law_511 rfl) ?_
      refine zl_lift (pc' := 513) (fun _ => zq_iconst (v := 2) dL_law_512 rfl rfl) ?_
      refine zl_lift (pc' := 514) (fun _ => zq_iadd dL_law_513 rfl) ?_
      refine zl_sld (pc' := 515) dL_law_514 rfl ?_
      refine zl_lift (pc' := 516) (fun _ => zq_i2l dL_law_515 rfl) ?_
      refine zl_lift (pc' := 519) (fun _ => zq_ldc2 zk_L_13 dL_law_516 rfl) ?_
      refine zl_lift (pc' := 520) (fun _ => zq_land dL_law_519 rfl) ?_
      refine zl_lift (pc' := 521) (fun _ => zq_lor dL_law_520 rfl) ?_
      refine zl_lift (pc' := 522) (fun _ => zq_aload_n rfl rfl dL_law_521 rfl) ?_
      refine zl_lift (pc' := 523) (fun _ => zq_iload_n rfl rfl dL_law_522 rfl) ?_
      refine zl_lift (pc' := 524) (fun _ => zq_iconst (v := 3) dL_law_523 rfl rfl) ?_
      refine zl_lift (pc' := 525) (fun _ => zq_iadd dL_law_524 rfl) ?_
      refine zl_sld (pc' := 526) dL_law_525 rfl ?_
      refine zl_cVi (pc' := 529) zcv_L_65 (cX11_order_mc N (((Int32.toInt64 (xs (Int32.toNatClampNeg (v.1 + (1 : Int32))))) <<< (Int32.toInt64 (32 : Int32) &&& 63)) ||| ((Int32.toInt64 (xs (Int32.toNatClampNeg (v.1 + (2 : Int32))))) &&& (4294967295 : Int64))) (xs (Int32.toNatClampNeg (v.1 + (3 : Int32)))) v.2) zob_0 rfl (by decide) (Nat.le_of_ble_eq_true rfl) dL_law_526 rfl rfl (fun r59 s60 => ?_)
      refine zl_lift (pc' := 530) (fun _ => zq_aload_n rfl rfl dL_law_529 rfl) ?_
      refine zl_lift (pc' := 531) (fun _ => zq_aload_n rfl rfl dL_law_530 rfl) ?_
      refine zl_lift (pc' := 532) (fun _ => zq_iload_n rfl rfl dL_law_531 rfl) ?_
      refine zl_lift (pc' := 533) (fun _ => zq_iconst (v := 1) dL_law_532 rfl rfl) ?_
      refine zl_lift (pc' := 534) (fun _ => zq_iadd dL_law_533 rfl) ?_
      refine zl_sld (pc' := 535) dL_law_534 rfl ?_
      refine zl_lift (pc' := 536) (fun _ => zq_i2l dL_law_535 rfl) ?_
      refine zl_lift (pc' := 538) (fun _ => zq_bipush (v := 32) dL_law_536 rfl rfl) ?_
      refine zl_lift (pc' := 539) (fun _ => zq_lshl dL_law_538 rfl) ?_
      refine zl_lift (pc' := 540) (fun _ => zq_aload_n rfl rfl dL_law_539 rfl) ?_
      refine zl_lift (pc' := 541) (fun _ => zq_iload_n rfl rfl dL_law_540 rfl) ?_
      refine zl_lift (pc' := 542) (fun _ => zq_iconst (v := 2) dL_law_541 rfl rfl) ?_
      refine zl_lift (pc' := 543) (fun _ => zq_iadd dL_law_542 rfl) ?_
      refine zl_sld (pc' := 544) dL_law_543 rfl ?_
      refine zl_lift (pc' := 545) (fun _ => zq_i2l dL_law_544 rfl) ?_
      refine zl_lift (pc' := 548) (fun _ => zq_ldc2 zk_L_13 dL_law_545 rfl) ?_
      refine zl_lift (pc' := 549) (fun _ => zq_land dL_law_548 rfl) ?_
      refine zl_lift (pc' := 550) (fun _ => zq_lor dL_law_549 rfl) ?_
      refine zl_lift (pc' := 551) (fun _ => zq_aload_n rfl rfl dL_law_550 rfl) ?_
      refine zl_lift (pc' := 552) (fun _ => zq_iload_n rfl rfl dL_law_551 rfl) ?_
      refine zl_lift (pc' := 553) (fun _ => zq_iconst (v := 3) dL_law_552 rfl rfl) ?_
      refine zl_lift (pc' := 554) (fun _ => zq_iadd dL_law_553 rfl) ?_
      refine zl_sld (pc' := 555) dL_law_554 rfl ?_
      refine zl_cVi (pc' := 558) zcv_L_69 (cX12_order_mc N (((Int32.toInt64 (xs (Int32.toNatClampNeg (v.1 + (1 : Int32))))) <<< (Int32.toInt64 (32 : Int32) &&& 63)) ||| ((Int32.toInt64 (xs (Int32.toNatClampNeg (v.1 + (2 : Int32))))) &&& (4294967295 : Int64))) (xs (Int32.toNatClampNeg (v.1 + (3 : Int32)))) s60) zob_57 rfl (by decide) (Nat.le_of_ble_eq_true rfl) dL_law_555 rfl rfl (fun r61 s62 => ?_)
      refine zl_icmp_eq (pc' := 561) (tgt := 1115) dL_law_558 rfl rfl (fun hc => ?_) (fun hc => ?_)
      · exact xL_law_j1115_j N L xs self hself v.1 s62
      · refine zl_lift (pc' := 562) (fun _ => zq_iconst (v := 0) dL_law_561 rfl rfl) ?_
        exact zl_none
    refine zl_ite (fun hc => ?_) (fun hn68 => ?_)
    · refine zl_tabIn (tgt := 563) hc dL_law_32 (by decide) (by decide) rfl rfl ?_
      refine zl_lift (pc' := 564) (fun _ => zq_aload_n rfl rfl dL_law_563 rfl) ?_
      refine zl_lift (pc' := 565) (fun _ => zq_aload_n rfl rfl dL_law_564 rfl) ?_
      refine zl_lift (pc' := 566) (fun _ => zq_iload_n rfl rfl dL_law_565 rfl) ?_
      refine zl_lift (pc' := 567) (fun _ => zq_iconst (v := 1) dL_law_566 rfl rfl) ?_
      refine zl_lift (pc' := 568) (fun _ => zq_iadd dL_law_567 rfl) ?_
      refine zl_sld (pc' := 569) dL_law_568 rfl ?_
      refine zl_lift (pc' := 570) (fun _ => zq_aload_n rfl rfl dL_law_569 rfl) ?_
      refine zl_lift (pc' := 571) (fun _ => zq_iload_n rfl rfl dL_law_570 rfl) ?_
      refine zl_lift (pc' := 572) (fun _ => zq_iconst (v := 2) dL_law_571 rfl rfl) ?_
      refine zl_lift (pc' := 573) (fun _ => zq_iadd dL_law_572 rfl) ?_
      refine zl_sld (pc' := 574) dL_law_573 rfl ?_
      refine zl_cVl (pc' := 577) zcv_L_70 (cX11_ahead_mc N (xs (Int32.toNatClampNeg (v.1 + (1 : Int32)))) (xs (Int32.toNatClampNeg (v.1 + (2 : Int32)))) v.2) zob_0 rfl (by decide) (Nat.le_of_ble_eq_true rfl) dL_law_574 rfl rfl (fun r64 s65 => ?_)
      refine zl_lift (pc' := 578) (fun _ => zq_aload_n rfl rfl dL_law_577 rfl) ?_
      refine zl_lift (pc' := 579) (fun _ => zq_aload_n rfl rfl dL_law_578 rfl) ?_
      refine zl_lift (pc' := 580) (fun _ => zq_iload_n rfl rfl dL_law_579 rfl) ?_
      refine zl_lift (pc' := 581) (fun _ => zq_iconst (v := 1) dL_law_580 rfl rfl) ?_
      refine zl_lift (pc' := 582) (fun _ => zq_iadd dL_law_581 rfl) ?_
      refine zl_sld (pc' := 583) dL_law_582 rfl ?_
      refine zl_lift (pc' := 584) (fun _ => zq_aload_n rfl rfl dL_law_583 rfl) ?_
      refine zl_lift (pc' := 585) (fun _ => zq_iload_n rfl rfl dL_law_584 rfl) ?_
      refine zl_lift (pc' := 586) (fun _ => zq_iconst (v := 2) dL_law_585 rfl rfl) ?_
      refine zl_lift (pc' := 587) (fun _ => zq_iadd dL_law_586 rfl) ?_
      refine zl_sld (pc' := 588) dL_law_587 rfl ?_
      refine zl_cVl (pc' := 591) zcv_L_74 (cX12_ahead_mc N (xs (Int32.toNatClampNeg (v.1 + (1 : Int32)))) (xs (Int32.toNatClampNeg (v.1 + (2 : Int32)))) s65) zob_57 rfl (by decide) (Nat.le_of_ble_eq_true rfl) dL_law_588 rfl rfl (fun r66 s67 => ?_)
      refine zl_lift (pc' := 592) (fun _ => zq_lcmp dL_law_591 rfl) ?_
      refine zl_if_eq (pc' := 595) (tgt := 1115) dL_law_592 rfl rfl (fun hc => ?_) (fun hc => ?_)
      · exact xL_law_j1115_j N L xs self hself v.1 s67
      · refine zl_lift (pc' := 596) (fun _ => zq_iconst (v := 0) dL_law_595 rfl rfl) ?_
        exact zl_none
    refine zl_ite (fun hc => ?_) (fun hn73 => ?_)
    · refine zl_tabIn (tgt := 597) hc dL_law_32 (by decide) (by decide) rfl rfl ?_
      refine zl_lift (pc' := 598) (fun _ => zq_aload_n rfl rfl dL_law_597 rfl) ?_
      refine zl_lift (pc' := 599) (fun _ => zq_aload_n rfl rfl dL_law_598 rfl) ?_
      refine zl_lift (pc' := 600) (fun _ => zq_iload_n rfl rfl dL_law_599 rfl) ?_
      refine zl_lift (pc' := 601) (fun _ => zq_iconst (v := 1) dL_law_600 rfl rfl) ?_
      refine zl_lift (pc' := 602) (fun _ => zq_iadd dL_law_601 rfl) ?_
      refine zl_sld (pc' := 603) dL_law_602 rfl ?_
      refine zl_lift (pc' := 604) (fun _ => zq_aload_n rfl rfl dL_law_603 rfl) ?_
      refine zl_lift (pc' := 605) (fun _ => zq_iload_n rfl rfl dL_law_604 rfl) ?_
      refine zl_lift (pc' := 606) (fun _ => zq_iconst (v := 2) dL_law_605 rfl rfl) ?_
      refine zl_lift (pc' := 607) (fun _ => zq_iadd dL_law_606 rfl) ?_
      refine zl_sld (pc' := 608) dL_law_607 rfl ?_
      refine zl_cVi (pc' := 611) zcv_L_75 (cX11_place_mc N (xs (Int32.toNatClampNeg (v.1 + (1 : Int32)))) (xs (Int32.toNatClampNeg (v.1 + (2 : Int32)))) v.2) zob_0 rfl (by decide) (Nat.le_of_ble_eq_true rfl) dL_law_608 rfl rfl (fun r69 s70 => ?_)
      refine zl_lift (pc' := 612) (fun _ => zq_aload_n rfl rfl dL_law_611 rfl) ?_
      refine zl_lift (pc' := 613) (fun _ => zq_aload_n rfl rfl dL_law_612 rfl) ?_
      refine zl_lift (pc' := 614) (fun _ => zq_iload_n rfl rfl dL_law_613 rfl) ?_
      refine zl_lift (pc' := 615) (fun _ => zq_iconst (v := 1) dL_law_614 rfl rfl) ?_
      refine zl_lift (pc' := 616) (fun _ => zq_iadd dL_law_615 rfl) ?_
      refine zl_sld (pc' := 617) dL_law_616 rfl ?_
      refine zl_lift (pc' := 618) (fun _ => zq_aload_n rfl rfl dL_law_617 rfl) ?_
      refine zl_lift (pc' := 619) (fun _ => zq_iload_n rfl rfl dL_law_618 rfl) ?_
      refine zl_lift (pc' := 620) (fun _ => zq_iconst (v := 2) dL_law_619 rfl rfl) ?_
      refine zl_lift (pc' := 621) (fun _ => zq_iadd dL_law_620 rfl) ?_
      refine zl_sld (pc' := 622) dL_law_621 rfl ?_
      refine zl_cVi (pc' := 625) zcv_L_78 (cX12_place_mc N (xs (Int32.toNatClampNeg (v.1 + (1 : Int32)))) (xs (Int32.toNatClampNeg (v.1 + (2 : Int32)))) s70) zob_57 rfl (by decide) (Nat.le_of_ble_eq_true rfl) dL_law_622 rfl rfl (fun r71 s72 => ?_)
      refine zl_icmp_eq (pc' := 628) (tgt := 1115) dL_law_625 rfl rfl (fun hc => ?_) (fun hc => ?_)
      · exact xL_law_j1115_j N L xs self hself v.1 s72
      · refine zl_lift (pc' := 629) (fun _ => zq_iconst (v := 0) dL_law_628 rfl rfl) ?_
        exact zl_none
    refine zl_ite (fun hc => ?_) (fun hn78 => ?_)
    · refine zl_tabIn (tgt := 630) hc dL_law_32 (by decide) (by decide) rfl rfl ?_
      refine zl_lift (pc' := 631) (fun _ => zq_aload_n rfl rfl dL_law_630 rfl) ?_
      refine zl_lift (pc' := 632) (fun _ => zq_aload_n rfl rfl dL_law_631 rfl) ?_
      refine zl_lift (pc' := 633) (fun _ => zq_iload_n rfl rfl dL_law_632 rfl) ?_
      refine zl_lift (pc' := 634) (fun _ => zq_iconst (v := 1) dL_law_633 rfl rfl) ?_
      refine zl_lift (pc' := 635) (fun _ => zq_iadd dL_law_634 rfl) ?_
      refine zl_sld (pc' := 636) dL_law_635 rfl ?_
      refine zl_cVi (pc' := 639) zcv_L_79 (cX11_session_mc N (xs (Int32.toNatClampNeg (v.1 + (1 : Int32)))) v.2) zob_0 rfl (by decide) (Nat.le_of_ble_eq_true rfl) dL_law_636 rfl rfl (fun r74 s75 => ?_)
      refine zl_lift (pc' := 640) (fun _ => zq_aload_n rfl rfl dL_law_639 rfl) ?_
      refine zl_lift (pc' := 641) (fun _ => zq_aload_n rfl rfl dL_law_640 rfl) ?_
      refine zl_lift (pc' := 642) (fun _ => zq_iload_n rfl rfl dL_law_641 rfl) ?_
      refine zl_lift (pc' := 643) (fun _ => zq_iconst (v := 1) dL_law_642 rfl rfl) ?_
      refine zl_lift (pc' := 644) (fun _ => zq_iadd dL_law_643 rfl) ?_
      refine zl_sld (pc' := 645) dL_law_644 rfl ?_
      refine zl_cVi (pc' := 648) zcv_L_82 (cX12_session_mc N (xs (Int32.toNatClampNeg (v.1 + (1 : Int32)))) s75) zob_57 rfl (by decide) (Nat.le_of_ble_eq_true rfl) dL_law_645 rfl rfl (fun r76 s77 => ?_)
      refine zl_icmp_eq (pc' := 651) (tgt := 1115) dL_law_648 rfl rfl (fun hc => ?_) (fun hc => ?_)
      · exact xL_law_j1115_j N L xs self hself v.1 s77
      · refine zl_lift (pc' := 652) (fun _ => zq_iconst (v := 0) dL_law_651 rfl rfl) ?_
        exact zl_none
    refine zl_ite (fun hc => ?_) (fun hn83 => ?_)
    · refine zl_tabIn (tgt := 653) hc dL_law_32 (by decide) (by decide) rfl rfl ?_
      refine zl_lift (pc' := 654) (fun _ => zq_aload_n rfl rfl dL_law_653 rfl) ?_
      refine zl_lift (pc' := 655) (fun _ => zq_aload_n rfl rfl dL_law_654 rfl) ?_
      refine zl_lift (pc' := 656) (fun _ => zq_iload_n rfl rfl dL_law_655 rfl) ?_
      refine zl_lift (pc' := 657) (fun _ => zq_iconst (v := 1) dL_law_656 rfl rfl) ?_
      refine zl_lift (pc' := 658) (fun _ => zq_iadd dL_law_657 rfl) ?_
      refine zl_sld (pc' := 659) dL_law_658 rfl ?_
      refine zl_lift (pc' := 660) (fun _ => zq_aload_n rfl rfl dL_law_659 rfl) ?_
      refine zl_lift (pc' := 661) (fun _ => zq_iload_n rfl rfl dL_law_660 rfl) ?_
      refine zl_lift (pc' := 662) (fun _ => zq_iconst (v := 2) dL_law_661 rfl rfl) ?_
      refine zl_lift (pc' := 663) (fun _ => zq_iadd dL_law_662 rfl) ?_
      refine zl_sld (pc' := 664) dL_law_663 rfl ?_
      refine zl_cVi (pc' := 667) zcv_L_83 (cX11_text_mc N (xs (Int32.toNatClampNeg (v.1 + (1 : Int32)))) (xs (Int32.toNatClampNeg (v.1 + (2 : Int32)))) v.2) zob_0 rfl (by decide) (Nat.le_of_ble_eq_true rfl) dL_law_664 rfl rfl (fun r79 s80 => ?_)
      refine zl_lift (pc' := 668) (fun _ => zq_aload_n rfl rfl dL_law_667 rfl) ?_
      refine zl_lift (pc' := 669) (fun _ => zq_aload_n rfl rfl dL_law_668 rfl) ?_
      refine zl_lift (pc' := 670) (fun _ => zq_iload_n rfl rfl dL_law_669 rfl) ?_
      refine zl_lift (pc' := 671) (fun _ => zq_iconst (v := 1) dL_law_670 rfl rfl) ?_
      refine zl_lift (pc' := 672) (fun _ => zq_iadd dL_law_671 rfl) ?_
      refine zl_sld (pc' := 673) dL_law_672 rfl ?_
      refine zl_lift (pc' := 674) (fun _ => zq_aload_n rfl rfl dL_law_673 rfl) ?_
      refine zl_lift (pc' := 675) (fun _ => zq_iload_n rfl rfl dL_law_674 rfl) ?_
      refine zl_lift (pc' := 676) (fun _ => zq_iconst (v := 2) dL_law_675 rfl rfl) ?_
      refine zl_lift (pc' := 677) (fun _ => zq_iadd dL_law_676 rfl) ?_
      refine zl_sld (pc' := 678) dL_law_677 rfl ?_
      refine zl_cVi (pc' := 681) zcv_L_86 (cX12_text_mc N (xs (Int32.toNatClampNeg (v.1 + (1 : Int32)))) (xs (Int32.toNatClampNeg (v.1 + (2 : Int32)))) s80) zob_57 rfl (by decide) (Nat.le_of_ble_eq_true rfl) dL_law_678 rfl rfl (fun r81 s82 => ?_)
      refine zl_icmp_eq (pc' := 684) (tgt := 1115) dL_law_681 rfl rfl (fun hc => ?_) (fun hc => ?_)
      · exact xL_law_j1115_j N L xs self hself v.1 s82
      · refine zl_lift (pc' := 685) (fun _ => zq_iconst (v := 0) dL_law_684 rfl rfl) ?_
        exact zl_none
    refine zl_ite (fun hc => ?_) (fun hn88 => ?_)
    · refine zl_tabIn (tgt := 686) hc dL_law_32 (by decide) (by decide) rfl rfl ?_
      refine zl_lift (pc' := 687) (fun _ => zq_aload_n rfl rfl dL_law_686 rfl) ?_
      refine zl_lift (pc' := 688) (fun _ => zq_aload_n rfl rfl dL_law_687 rfl) ?_
      refine zl_lift (pc' := 689) (fun _ => zq_iload_n rfl rfl dL_law_688 rfl) ?_
      refine zl_lift (pc' := 690) (fun _ => zq_iconst (v := 1) dL_law_689 rfl rfl) ?_
      refine zl_lift (pc' := 691) (fun _ => zq_iadd dL_law_690 rfl) ?_
      refine zl_sld (pc' := 692) dL_law_691 rfl ?_
      refine zl_cVi (pc' := 695) zcv_L_87 (cX11_view_mc N (xs (Int32.toNatClampNeg (v.1 + (1 : Int32)))) v.2) zob_0 rfl (by decide) (Nat.le_of_ble_eq_true rfl) dL_law_692 rfl rfl (fun r84 s85 => ?_)
      refine zl_lift (pc' := 696) (fun _ => zq_aload_n rfl rfl dL_law_695 rfl) ?_
      refine zl_lift (pc' := 697) (fun _ => zq_aload_n rfl rfl dL_law_696 rfl) ?_
      refine zl_lift (pc' := 698) (fun _ => zq_iload_n rfl rfl dL_law_697 rfl) ?_
      refine zl_lift (pc' := 699) (fun _ => zq_iconst (v := 1) dL_law_698 rfl rfl) ?_
      refine zl_lift (pc' := 700) (fun _ => zq_iadd dL_law_699 rfl) ?_
      refine zl_sld (pc' := 701) dL_law_700 rfl ?_
      refine zl_cVi (pc' := 704) zcv_L_90 (cX12_view_mc N (xs (Int32.toNatClampNeg (v.1 + (1 : Int32)))) s85) zob_57 rfl (by decide) (Nat.le_of_ble_eq_true rfl) dL_law_701 rfl rfl (fun r86 s87 => ?_)
      refine zl_icmp_eq (pc' := 707) (tgt := 1115) dL_law_704 rfl rfl (fun hc => ?_) (fun hc => ?_)
      · exact xL_law_j1115_j N L xs self hself v.1 s87
      · refine zl_lift (pc' := 708) (fun _ => zq_iconst (v := 0) dL_law_707 rfl rfl) ?_
        exact zl_none
    refine zl_ite (fun hc => ?_) (fun hn93 => ?_)
    · refine zl_tabIn (tgt := 709) hc dL_law_32 (by decide) (by decide) rfl rfl ?_
      refine zl_lift (pc' := 710) (fun _ => zq_aload_n rfl rfl dL_law_709 rfl) ?_
      refine zl_lift (pc' := 711) (fun _ => zq_aload_n rfl rfl dL_law_710 rfl) ?_
      refine zl_lift (pc' := 712) (fun _ => zq_iload_n rfl rfl dL_law_711 rfl) ?_
      refine zl_lift (pc' := 713) (fun _ => zq_iconst (v := 1) dL_law_712 rfl rfl) ?_
      refine zl_lift (pc' := 714) (fun _ => zq_iadd dL_law_713 rfl) ?_
      refine zl_sld (pc' := 715) dL_law_714 rfl ?_
      refine zl_lift (pc' := 716) (fun _ => zq_aload_n rfl rfl dL_law_715 rfl) ?_
      refine zl_lift (pc' := 717) (fun _ => zq_iload_n rfl rfl dL_law_716 rfl) ?_
      refine zl_lift (pc' := 718) (fun _ => zq_iconst (v := 2) dL_law_717 rfl rfl) ?_
      refine zl_lift (pc' := 719) (fun _ => zq_iadd dL_law_718 rfl) ?_
      refine zl_sld (pc' := 720) dL_law_719 rfl ?_
      refine zl_cVi (pc' := 723) zcv_L_91 (cX11_word_mc N (xs (Int32.toNatClampNeg (v.1 + (1 : Int32)))) (xs (Int32.toNatClampNeg (v.1 + (2 : Int32)))) v.2) zob_0 rfl (by decide) (Nat.le_of_ble_eq_true rfl) dL_law_720 rfl rfl (fun r89 s90 => ?_)
      refine zl_lift (pc' := 724) (fun _ => zq_aload_n rfl rfl dL_law_723 rfl) ?_
      refine zl_lift (pc' := 725) (fun _ => zq_aload_n rfl rfl dL_law_724 rfl) ?_
      refine zl_lift (pc' := 726) (fun _ => zq_iload_n rfl rfl dL_law_725 rfl) ?_
      refine zl_lift (pc' := 727) (fun _ => zq_iconst (v := 1) dL_law_726 rfl rfl) ?_
      refine zl_lift (pc' := 728) (fun _ => zq_iadd dL_law_727 rfl) ?_
      refine zl_sld (pc' := 729) dL_law_728 rfl ?_
      refine zl_lift (pc' := 730) (fun _ => zq_aload_n rfl rfl dL_law_729 rfl) ?_
      refine zl_lift (pc' := 731) (fun _ => zq_iload_n rfl rfl dL_law_730 rfl) ?_
      refine zl_lift (pc' := 732) (fun _ => zq_iconst (v := 2) dL_law_731 rfl rfl) ?_
      refine zl_lift (pc' := 733) (fun _ => zq_iadd dL_law_732 rfl) ?_
      refine zl_sld (pc' := 734) dL_law_733 rfl ?_
      refine zl_cVi (pc' := 737) zcv_L_94 (cX12_word_mc N (xs (Int32.toNatClampNeg (v.1 + (1 : Int32)))) (xs (Int32.toNatClampNeg (v.1 + (2 : Int32)))) s90) zob_57 rfl (by decide) (Nat.le_of_ble_eq_true rfl) dL_law_734 rfl rfl (fun r91 s92 => ?_)
      refine zl_icmp_eq (pc' := 740) (tgt := 1115) dL_law_737 rfl rfl (fun hc => ?_) (fun hc => ?_)
      · exact xL_law_j1115_j N L xs self hself v.1 s92
      · refine zl_lift (pc' := 741) (fun _ => zq_iconst (v := 0) dL_law_740 rfl rfl) ?_
        exact zl_none
    refine zl_ite (fun hc => ?_) (fun hn98 => ?_)
    · refine zl_tabIn (tgt := 742) hc dL_law_32 (by decide) (by decide) rfl rfl ?_
      refine zl_lift (pc' := 743) (fun _ => zq_aload_n rfl rfl dL_law_742 rfl) ?_
      refine zl_cVi (pc' := 746) zcv_L_95 (cX11_idle_mc N v.2) zob_0 rfl (by decide) (Nat.le_of_ble_eq_true rfl) dL_law_743 rfl rfl (fun r94 s95 => ?_)
      refine zl_lift (pc' := 747) (fun _ => zq_aload_n rfl rfl dL_law_746 rfl) ?_
      refine zl_cVi (pc' := 750) zcv_L_98 (cX12_idle_mc N s95) zob_57 rfl (by decide) (Nat.le_of_ble_eq_true rfl) dL_law_747 rfl rfl (fun r96 s97 => ?_)
      refine zl_icmp_eq (pc' := 753) (tgt := 1115) dL_law_750 rfl rfl (fun hc => ?_) (fun hc => ?_)
      · exact xL_law_j1115_j N L xs self hself v.1 s97
      · refine zl_lift (pc' := 754) (fun _ => zq_iconst (v := 0) dL_law_753 rfl rfl) ?_
        exact zl_none
    refine zl_ite (fun hc => ?_) (fun hn103 => ?_)
    · refine zl_tabIn (tgt := 755) hc dL_law_32 (by decide) (by decide) rfl rfl ?_
      refine zl_lift (pc' := 756) (fun _ => zq_aload_n rfl rfl dL_law_755 rfl) ?_
      refine zl_lift (pc' := 757) (fun _ => zq_aload_n rfl rfl dL_law_756 rfl) ?_
      refine zl_lift (pc' := 758) (fun _ => zq_iload_n rfl rfl dL_law_757 rfl) ?_
      refine zl_lift (pc' := 759) (fun _ => zq_iconst (v := 1) dL_law_758 rfl rfl) ?_
      refine zl_lift (pc' := 760) (fun _ => zq_iadd dL_law_759 rfl) ?_
      refine zl_sld (pc' := 761) dL_law_760 rfl ?_
      refine zl_lift (pc' := 762) (fun _ => zq_aload_n rfl rfl dL_law_761 rfl) ?_
      refine zl_lift (pc' := 763) (fun _ => zq_iload_n rfl rfl dL_law_762 rfl) ?_
      refine zl_lift (pc' := 764) (fun _ => zq_iconst (v := 2) dL_law_763 rfl rfl) ?_
      refine zl_lift (pc' := 765) (fun _ => zq_iadd dL_law_764 rfl) ?_
      refine zl_sld (pc' := 766) dL_law_765 rfl ?_
      refine zl_cVi (pc' := 769) zcv_L_99 (cX11_apart_mc N (xs (Int32.toNatClampNeg (v.1 + (1 : Int32)))) (xs (Int32.toNatClampNeg (v.1 + (2 : Int32)))) v.2) zob_0 rfl (by decide) (Nat.le_of_ble_eq_true rfl) dL_law_766 rfl rfl (fun r99 s100 => ?_)
      refine zl_lift (pc' := 770) (fun _ => zq_aload_n rfl rfl dL_law_769 rfl) ?_
      refine zl_lift (pc' := 771) (fun _ => zq_aload_n rfl rfl dL_law_770 rfl) ?_
      refine zl_lift (pc' := 772) (fun _ => zq_iload_n rfl rfl dL_law_771 rfl) ?_
      refine zl_lift (pc' := 773) (fun _ => zq_iconst (v := 1) dL_law_772 rfl rfl) ?_
      refine zl_lift (pc' := 774) (fun _ => zq_iadd dL_law_773 rfl) ?_
      refine zl_sld (pc' := 775) dL_law_774 rfl ?_
      refine zl_lift (pc' := 776) (fun _ => zq_aload_n rfl rfl dL_law_775 rfl) ?_
      refine zl_lift (pc' := 777) (fun _ => zq_iload_n rfl rfl dL_law_776 rfl) ?_
      refine zl_lift (pc' := 778) (fun _ => zq_iconst (v := 2) dL_law_777 rfl rfl) ?_
      refine zl_lift (pc' := 779) (fun _ => zq_iadd dL_law_778 rfl) ?_
      refine zl_sld (pc' := 780) dL_law_779 rfl ?_
      refine zl_cVi (pc' := 783) zcv_L_102 (cX12_apart_mc N (xs (Int32.toNatClampNeg (v.1 + (1 : Int32)))) (xs (Int32.toNatClampNeg (v.1 + (2 : Int32)))) s100) zob_57 rfl (by decide) (Nat.le_of_ble_eq_true rfl) dL_law_780 rfl rfl (fun r101 s102 => ?_)
      refine zl_icmp_eq (pc' := 786) (tgt := 1115) dL_law_783 rfl rfl (fun hc => ?_) (fun hc => ?_)
      · exact xL_law_j1115_j N L xs self hself v.1 s102
      · refine zl_lift (pc' := 787) (fun _ => zq_iconst (v := 0) dL_law_786 rfl rfl) ?_
        exact zl_none
    refine zl_ite (fun hc => ?_) (fun hn108 => ?_)
    · refine zl_tabIn (tgt := 788) hc dL_law_32 (by decide) (by decide) rfl rfl ?_
      refine zl_lift (pc' := 789) (fun _ => zq_aload_n rfl rfl dL_law_788 rfl) ?_
      refine zl_lift (pc' := 790) (fun _ => zq_aload_n rfl rfl dL_law_789 rfl) ?_
      refine zl_lift (pc' := 791) (fun _ => zq_iload_n rfl rfl dL_law_790 rfl) ?_
      refine zl_lift (pc' := 792) (fun _ => zq_iconst (v := 1) dL_law_791 rfl rfl) ?_
      refine zl_lift (pc' := 793) (fun _ => zq_iadd dL_law_792 rfl) ?_
      refine zl_sld (pc' := 794) dL_law_793 rfl ?_
      refine zl_lift (pc' := 795) (fun _ => zq_aload_n rfl rfl dL_law_794 rfl) ?_
      refine zl_lift (pc' := 796) (fun _ => zq_iload_n rfl rfl dL_law_795 rfl) ?_
      refine zl_lift (pc' := 797) (fun _ => zq_iconst (v := 2) dL_law_796 rfl rfl) ?_
      refine zl_lift (pc' := 798) (fun _ => zq_iadd dL_law_797 rfl) ?_
      refine zl_sld (pc' := 799) dL_law_798 rfl ?_
      refine zl_cVi (pc' := 802) zcv_L_103 (cX11_without_mc N (xs (Int32.toNatClampNeg (v.1 + (1 : Int32)))) (xs (Int32.toNatClampNeg (v.1 + (2 : Int32)))) v.2) zob_0 rfl (by decide) (Nat.le_of_ble_eq_true rfl) dL_law_799 rfl rfl (fun r104 s105 => ?_)
      refine zl_lift (pc' := 803) (fun _ => zq_aload_n rfl rfl dL_law_802 rfl) ?_
      refine zl_lift (pc' := 804) (fun _ => zq_aload_n rfl rfl dL_law_803 rfl) ?_
      refine zl_lift (pc' := 805) (fun _ => zq_iload_n rfl rfl dL_law_804 rfl) ?_
      refine zl_lift (pc' := 806) (fun _ => zq_iconst (v := 1) dL_law_805 rfl rfl) ?_
      refine zl_lift (pc' := 807) (fun _ => zq_iadd dL_law_806 rfl) ?_
      refine zl_sld (pc' := 808) dL_law_807 rfl ?_
      refine zl_lift (pc' := 809) (fun _ => zq_aload_n rfl rfl dL_law_808 rfl) ?_
      refine zl_lift (pc' := 810) (fun _ => zq_iload_n rfl rfl dL_law_809 rfl) ?_
      refine zl_lift (pc' := 811) (fun _ => zq_iconst (v := 2) dL_law_810 rfl rfl) ?_
      refine zl_lift (pc' := 812) (fun _ => zq_iadd dL_law_811 rfl) ?_
      refine zl_sld (pc' := 813) dL_law_812 rfl ?_
      refine zl_cVi (pc' := 816) zcv_L_106 (cX12_without_mc N (xs (Int32.toNatClampNeg (v.1 + (1 : Int32)))) (xs (Int32.toNatClampNeg (v.1 + (2 : Int32)))) s105) zob_57 rfl (by decide) (Nat.le_of_ble_eq_true rfl) dL_law_813 rfl rfl (fun r106 s107 => ?_)
      refine zl_icmp_eq (pc' := 819) (tgt := 1115) dL_law_816 rfl rfl (fun hc => ?_) (fun hc => ?_)
      · exact xL_law_j1115_j N L xs self hself v.1 s107
      · refine zl_lift (pc' := 820) (fun _ => zq_iconst (v := 0) dL_law_819 rfl rfl) ?_
        exact zl_none
    refine zl_ite (fun hc => ?_) (fun hn113 => ?_)
    · refine zl_tabIn (tgt := 821) hc dL_law_32 (by decide) (by decide) rfl rfl ?_
      refine zl_lift (pc' := 822) (fun _ => zq_aload_n rfl rfl dL_law_821 rfl) ?_
      refine zl_lift (pc' := 823) (fun _ => zq_aload_n rfl rfl dL_law_822 rfl) ?_
      refine zl_lift (pc' := 824) (fun _ => zq_iload_n rfl rfl dL_law_823 rfl) ?_
      refine zl_lift (pc' := 825) (fun _ => zq_iconst (v := 1) dL_law_824 rfl rfl) ?_
      refine zl_lift (pc' := 826) (fun _ => zq_iadd dL_law_825 rfl) ?_
      refine zl_sld (pc' := 827) dL_law_826 rfl ?_
      refine zl_cVi (pc' := 830) zcv_L_107 (cX11_write_mc N (xs (Int32.toNatClampNeg (v.1 + (1 : Int32)))) v.2) zob_0 rfl (by decide) (Nat.le_of_ble_eq_true rfl) dL_law_827 rfl rfl (fun r109 s110 => ?_)
      refine zl_lift (pc' := 831) (fun _ => zq_aload_n rfl rfl dL_law_830 rfl) ?_
      refine zl_lift (pc' := 832) (fun _ => zq_aload_n rfl rfl dL_law_831 rfl) ?_
      refine zl_lift (pc' := 833) (fun _ => zq_iload_n rfl rfl dL_law_832 rfl) ?_
      refine zl_lift (pc' := 834) (fun _ => zq_iconst (v := 1) dL_law_833 rfl rfl) ?_
      refine zl_lift (pc' := 835) (fun _ => zq_iadd dL_law_834 rfl) ?_
      refine zl_sld (pc' := 836) dL_law_835 rfl ?_
      refine zl_cVi (pc' := 839) zcv_L_110 (cX12_write_mc N (xs (Int32.toNatClampNeg (v.1 + (1 : Int32)))) s110) zob_57 rfl (by decide) (Nat.le_of_ble_eq_true rfl) dL_law_836 rfl rfl (fun r111 s112 => ?_)
      refine zl_icmp_eq (pc' := 842) (tgt := 1115) dL_law_839 rfl rfl (fun hc => ?_) (fun hc => ?_)
      · exact xL_law_j1115_j N L xs self hself v.1 s112
      · refine zl_lift (pc' := 843) (fun _ => zq_iconst (v := 0) dL_law_842 rfl rfl) ?_
        exact zl_none
    refine zl_ite (fun hc => ?_) (fun hn118 => ?_)
    · refine zl_tabIn (tgt := 844) hc dL_law_32 (by decide) (by decide) rfl rfl ?_
      refine zl_lift (pc' := 845) (fun _ => zq_aload_n rfl rfl dL_law_844 rfl) ?_
      refine zl_lift (pc' := 846) (fun _ => zq_aload_n rfl rfl dL_law_845 rfl) ?_
      refine zl_lift (pc' := 847) (fun _ => zq_iload_n rfl rfl dL_law_846 rfl) ?_
      refine zl_lift (pc' := 848) (fun _ => zq_iconst (v := 1) dL_law_847 rfl rfl) ?_
      refine zl_lift (pc' := 849) (fun _ => zq_iadd dL_law_848 rfl) ?_
      refine zl_sld (pc' := 850) dL_law_849 rfl ?_
      refine zl_cVi (pc' := 853) zcv_L_111 (cX11_see_mc N (xs (Int32.toNatClampNeg (v.1 + (1 : Int32)))) v.2) zob_0 rfl (by decide) (Nat.le_of_ble_eq_true rfl) dL_law_850 rfl rfl (fun r114 s115 => ?_)
      refine zl_lift (pc' := 854) (fun _ => zq_aload_n rfl rfl dL_law_853 rfl) ?_
      refine zl_lift (pc' := 855) (fun _ => zq_aload_n rfl rfl dL_law_854 rfl) ?_
      refine zl_lift (pc' := 856) (fun _ => zq_iload_n rfl rfl dL_law_855 rfl) ?_
      refine zl_lift (pc' := 857) (fun _ => zq_iconst (v := 1) dL_law_856 rfl rfl) ?_
      refine zl_lift (pc' := 858) (fun _ => zq_iadd dL_law_857 rfl) ?_
      refine zl_sld (pc' := 859) dL_law_858 rfl ?_
      refine zl_cVi (pc' := 862) zcv_L_114 (cX12_see_mc N (xs (Int32.toNatClampNeg (v.1 + (1 : Int32)))) s115) zob_57 rfl (by decide) (Nat.le_of_ble_eq_true rfl) dL_law_859 rfl rfl (fun r116 s117 => ?_)
      refine zl_icmp_eq (pc' := 865) (tgt := 1115) dL_law_862 rfl rfl (fun hc => ?_) (fun hc => ?_)
      · exact xL_law_j1115_j N L xs self hself v.1 s117
      · refine zl_lift (pc' := 866) (fun _ => zq_iconst (v := 0) dL_law_865 rfl rfl) ?_
        exact zl_none
    refine zl_ite (fun hc => ?_) (fun hn123 => ?_)
    · refine zl_tabIn (tgt := 867) hc dL_law_32 (by decide) (by decide) rfl rfl ?_
      refine zl_lift (pc' := 868) (fun _ => zq_aload_n rfl rfl dL_law_867 rfl) ?_
      refine zl_cVi (pc' := 871) zcv_L_115 (cX11_copy_mc N v.2) zob_0 rfl (by decide) (Nat.le_of_ble_eq_true rfl) dL_law_868 rfl rfl (fun r119 s120 => ?_)
      refine zl_lift (pc' := 872) (fun _ => zq_aload_n rfl rfl dL_law_871 rfl) ?_
      refine zl_cVi (pc' := 875) zcv_L_118 (cX12_copy_mc N s120) zob_57 rfl (by decide) (Nat.le_of_ble_eq_true rfl) dL_law_872 rfl rfl (fun r121 s122 => ?_)
      refine zl_icmp_eq (pc' := 878) (tgt := 1115) dL_law_875 rfl rfl (fun hc => ?_) (fun hc => ?_)
      · exact xL_law_j1115_j N L xs self hself v.1 s122
      · refine zl_lift (pc' := 879) (fun _ => zq_iconst (v := 0) dL_law_878 rfl rfl) ?_
        exact zl_none
    refine zl_ite (fun hc => ?_) (fun hn128 => ?_)
    · refine zl_tabIn (tgt := 880) hc dL_law_32 (by decide) (by decide) rfl rfl ?_
      refine zl_lift (pc' := 881) (fun _ => zq_aload_n rfl rfl dL_law_880 rfl) ?_
      refine zl_cVi (pc' := 884) zcv_L_119 (cX11_drop_mc N v.2) zob_0 rfl (by decide) (Nat.le_of_ble_eq_true rfl) dL_law_881 rfl rfl (fun r124 s125 => ?_)
      refine zl_lift (pc' := 885) (fun _ => zq_aload_n rfl rfl dL_law_884 rfl) ?_
      refine zl_cVi (pc' := 888) zcv_L_122 (cX12_drop_mc N s125) zob_57 rfl (by decide) (Nat.le_of_ble_eq_true rfl) dL_law_885 rfl rfl (fun r126 s127 => ?_)
      refine zl_icmp_eq (pc' := 891) (tgt := 1115) dL_law_888 rfl rfl (fun hc => ?_) (fun hc => ?_)
      · exact xL_law_j1115_j N L xs self hself v.1 s127
      · refine zl_lift (pc' := 892) (fun _ => zq_iconst (v := 0) dL_law_891 rfl rfl) ?_
        exact zl_none
    refine zl_ite (fun hc => ?_) (fun hn133 => ?_)
    · refine zl_tabIn (tgt := 893) hc dL_law_32 (by decide) (by decide) rfl rfl ?_
      refine zl_lift (pc' := 894) (fun _ => zq_aload_n rfl rfl dL_law_893 rfl) ?_
      refine zl_lift (pc' := 895) (fun _ => zq_aload_n rfl rfl dL_law_894 rfl) ?_
      refine zl_lift (pc' := 896) (fun _ => zq_iload_n rfl rfl dL_law_895 rfl) ?_
      refine zl_lift (pc' := 897) (fun _ => zq_iconst (v := 1) dL_law_896 rfl rfl) ?_
      refine zl_lift (pc' := 898) (fun _ => zq_iadd dL_law_897 rfl) ?_
      refine zl_sld (pc' := 899) dL_law_898 rfl ?_
      refine zl_lift (pc' := 900) (fun _ => zq_aload_n rfl rfl dL_law_899 rfl) ?_
      refine zl_lift (pc' := 901) (fun _ => zq_iload_n rfl rfl dL_law_900 rfl) ?_
      refine zl_lift (pc' := 902) (fun _ => zq_iconst (v := 2) dL_law_901 rfl rfl) ?_
      refine zl_lift (pc' := 903) (fun _ => zq_iadd dL_law_902 rfl) ?_
      refine zl_sld (pc' := 904) dL_law_903 rfl ?_
      refine zl_cVi (pc' := 907) zcv_L_123 (cX11_times_mc N (xs (Int32.toNatClampNeg (v.1 + (1 : Int32)))) (xs (Int32.toNatClampNeg (v.1 + (2 : Int32)))) v.2) zob_0 rfl (by decide) (Nat.le_of_ble_eq_true rfl) dL_law_904 rfl rfl (fun r129 s130 => ?_)
      refine zl_lift (pc' := 908) (fun _ => zq_aload_n rfl rfl dL_law_907 rfl) ?_
      refine zl_lift (pc' := 909) (fun _ => zq_aload_n rfl rfl dL_law_908 rfl) ?_
      refine zl_lift (pc' := 910) (fun _ => zq_iload_n rfl rfl dL_law_909 rfl) ?_
      refine zl_lift (pc' := 911) (fun _ => zq_iconst (v := 1) dL_law_910 rfl rfl) ?_
      refine zl_lift (pc' := 912) (fun _ => zq_iadd dL_law_911 rfl) ?_
      refine zl_sld (pc' := 913) dL_law_912 rfl ?_
      refine zl_lift (pc' := 914) (fun _ => zq_aload_n rfl rfl dL_law_913 rfl) ?_
      refine zl_lift (pc' := 915) (fun _ => zq_iload_n rfl rfl dL_law_914 rfl) ?_
      refine zl_lift (pc' := 916) (fun _ => zq_iconst (v := 2) dL_law_915 rfl rfl) ?_
      refine zl_lift (pc' := 917) (fun _ => zq_iadd dL_law_916 rfl) ?_
      refine zl_sld (pc' := 918) dL_law_917 rfl ?_
      refine zl_cVi (pc' := 921) zcv_L_126 (cX12_times_mc N (xs (Int32.toNatClampNeg (v.1 + (1 : Int32)))) (xs (Int32.toNatClampNeg (v.1 + (2 : Int32)))) s130) zob_57 rfl (by decide) (Nat.le_of_ble_eq_true rfl) dL_law_918 rfl rfl (fun r131 s132 => ?_)
      refine zl_icmp_eq (pc' := 924) (tgt := 1115) dL_law_921 rfl rfl (fun hc => ?_) (fun hc => ?_)
      · exact xL_law_j1115_j N L xs self hself v.1 s132
      · refine zl_lift (pc' := 925) (fun _ => zq_iconst (v := 0) dL_law_924 rfl rfl) ?_
        exact zl_none
    refine zl_ite (fun hc => ?_) (fun hn138 => ?_)
    · refine zl_tabIn (tgt := 926) hc dL_law_32 (by decide) (by decide) rfl rfl ?_
      refine zl_lift (pc' := 927) (fun _ => zq_aload_n rfl rfl dL_law_926 rfl) ?_
      refine zl_cVl (pc' := 930) zcv_L_127 (cX11_holds_mc N v.2) zob_0 rfl (by decide) (Nat.le_of_ble_eq_true rfl) dL_law_927 rfl rfl (fun r134 s135 => ?_)
      refine zl_lift (pc' := 931) (fun _ => zq_aload_n rfl rfl dL_law_930 rfl) ?_
      refine zl_cVl (pc' := 934) zcv_L_130 (cX12_holds_mc N s135) zob_57 rfl (by decide) (Nat.le_of_ble_eq_true rfl) dL_law_931 rfl rfl (fun r136 s137 => ?_)
      refine zl_lift (pc' := 935) (fun _ => zq_lcmp dL_law_934 rfl) ?_
      refine zl_if_eq (pc' := 938) (tgt := 1115) dL_law_935 rfl rfl (fun hc => ?_) (fun hc => ?_)
      · exact xL_law_j1115_j N L xs self hself v.1 s137
      · refine zl_lift (pc' := 939) (fun _ => zq_iconst (v := 0) dL_law_938 rfl rfl) ?_
        exact zl_none
    refine zl_ite (fun hc => ?_) (fun hn143 => ?_)
    · refine zl_tabIn (tgt := 940) hc dL_law_32 (by decide) (by decide) rfl rfl ?_
      refine zl_lift (pc' := 941) (fun _ => zq_aload_n rfl rfl dL_law_940 rfl) ?_
      refine zl_lift (pc' := 942) (fun _ => zq_aload_n rfl rfl dL_law_941 rfl) ?_
      refine zl_lift (pc' := 943) (fun _ => zq_iload_n rfl rfl dL_law_942 rfl) ?_
      refine zl_lift (pc' := 944) (fun _ => zq_iconst (v := 1) dL_law_943 rfl rfl) ?_
      refine zl_lift (pc' := 945) (fun _ => zq_iadd dL_law_944 rfl) ?_
      refine zl_sld (pc' := 946) dL_law_945 rfl ?_
      refine zl_lift (pc' := 947) (fun _ => zq_aload_n rfl rfl dL_law_946 rfl) ?_
      refine zl_lift (pc' := 948) (fun _ => zq_iload_n rfl rfl dL_law_947 rfl) ?_
      refine zl_lift (pc' := 949) (fun _ => zq_iconst (v := 2) dL_law_948 rfl rfl) ?_
      refine zl_lift (pc' := 950) (fun _ => zq_iadd dL_law_949 rfl) ?_
      refine zl_sld (pc' := 951) dL_law_950 rfl ?_
      refine zl_cVi (pc' := 954) zcv_L_131 (cX11_when_mc N (xs (Int32.toNatClampNeg (v.1 + (1 : Int32)))) (xs (Int32.toNatClampNeg (v.1 + (2 : Int32)))) v.2) zob_0 rfl (by decide) (Nat.le_of_ble_eq_true rfl) dL_law_951 rfl rfl (fun r139 s140 => ?_)
      refine zl_lift (pc' := 955) (fun _ => zq_aload_n rfl rfl dL_law_954 rfl) ?_
      refine zl_lift (pc' := 956) (fun _ => zq_aload_n rfl rfl dL_law_955 rfl) ?_
      refine zl_lift (pc' := 957) (fun _ => zq_iload_n rfl rfl dL_law_956 rfl) ?_
      refine zl_lift (pc' := 958) (fun _ => zq_iconst (v := 1) dL_law_957 rfl rfl) ?_
      refine zl_lift (pc' := 959) (fun _ => zq_iadd dL_law_958 rfl) ?_
      refine zl_sld (pc' := 960) dL_law_959 rfl ?_
      refine zl_lift (pc' := 961) (fun _ => zq_aload_n rfl rfl dL_law_960 rfl) ?_
      refine zl_lift (pc' := 962) (fun _ => zq_iload_n rfl rfl dL_law_961 rfl) ?_
      refine zl_lift (pc' := 963) (fun _ => zq_iconst (v := 2) dL_law_962 rfl rfl) ?_
      refine zl_lift (pc' := 964) (fun _ => zq_iadd dL_law_963 rfl) ?_
      refine zl_sld (pc' := 965) dL_law_964 rfl ?_
      refine zl_cVi (pc' := 968) zcv_L_134 (cX12_when_mc N (xs (Int32.toNatClampNeg (v.1 + (1 : Int32)))) (xs (Int32.toNatClampNeg (v.1 + (2 : Int32)))) s140) zob_57 rfl (by decide) (Nat.le_of_ble_eq_true rfl) dL_law_965 rfl rfl (fun r141 s142 => ?_)
      refine zl_icmp_eq (pc' := 971) (tgt := 1115) dL_law_968 rfl rfl (fun hc => ?_) (fun hc => ?_)
      · exact xL_law_j1115_j N L xs self hself v.1 s142
      · refine zl_lift (pc' := 972) (fun _ => zq_iconst (v := 0) dL_law_971 rfl rfl) ?_
        exact zl_none
    refine zl_ite (fun hc => ?_) (fun hn148 => ?_)
    · refine zl_tabIn (tgt := 973) hc dL_law_32 (by decide) (by decide) rfl rfl ?_
      refine zl_lift (pc' := 974) (fun _ => zq_aload_n rfl rfl dL_law_973 rfl) ?_
      refine zl_lift (pc' := 975) (fun _ => zq_aload_n rfl rfl dL_law_974 rfl) ?_
      refine zl_lift (pc' := 976) (fun _ => zq_iload_n rfl rfl dL_law_975 rfl) ?_
      refine zl_lift (pc' := 977) (fun _ => zq_iconst (v := 1) dL_law_976 rfl rfl) ?_
      refine zl_lift (pc' := 978) (fun _ => zq_iadd dL_law_977 rfl) ?_
      refine zl_sld (pc' := 979) dL_law_978 rfl ?_
      refine zl_lift (pc' := 980) (fun _ => zq_aload_n rfl rfl dL_law_979 rfl) ?_
      refine zl_lift (pc' := 981) (fun _ => zq_iload_n rfl rfl dL_law_980 rfl) ?_
      refine zl_lift (pc' := 982) (fun _ => zq_iconst (v := 2) dL_law_981 rfl rfl) ?_
      refine zl_lift (pc' := 983) (fun _ => zq_iadd dL_law_982 rfl) ?_
      refine zl_sld (pc' := 984) dL_law_983 rfl ?_
      refine zl_cVi (pc' := 987) zcv_L_135 (cX11_nearest_mc N (xs (Int32.toNatClampNeg (v.1 + (1 : Int32)))) (xs (Int32.toNatClampNeg (v.1 + (2 : Int32)))) v.2) zob_0 rfl (by decide) (Nat.le_of_ble_eq_true rfl) dL_law_984 rfl rfl (fun r144 s145 => ?_)
      refine zl_lift (pc' := 988) (fun _ => zq_aload_n rfl rfl dL_law_987 rfl) ?_
      refine zl_lift (pc' := 989) (fun _ => zq_aload_n rfl rfl dL_law_988 rfl) ?_
      refine zl_lift (pc' := 990) (fun _ => zq_iload_n rfl rfl dL_law_989 rfl) ?_
      refine zl_lift (pc' := 991) (fun _ => zq_iconst (v := 1) dL_law_990 rfl rfl) ?_
      refine zl_lift (pc' := 992) (fun _ => zq_iadd dL_law_991 rfl) ?_
      refine zl_sld (pc' := 993) dL_law_992 rfl ?_
      refine zl_lift (pc' := 994) (fun _ => zq_aload_n rfl rfl dL_law_993 rfl) ?_
      refine zl_lift (pc' := 995) (fun _ => zq_iload_n rfl rfl dL_law_994 rfl) ?_
      refine zl_lift (pc' := 996) (fun _ => zq_iconst (v := 2) dL_law_995 rfl rfl) ?_
      refine zl_lift (pc' := 997) (fun _ => zq_iadd dL_law_996 rfl) ?_
      refine zl_sld (pc' := 998) dL_law_997 rfl ?_
      refine zl_cVi (pc' := 1001) zcv_L_138 (cX12_nearest_mc N (xs (Int32.toNatClampNeg (v.1 + (1 : Int32)))) (xs (Int32.toNatClampNeg (v.1 + (2 : Int32)))) s145) zob_57 rfl (by decide) (Nat.le_of_ble_eq_true rfl) dL_law_998 rfl rfl (fun r146 s147 => ?_)
      refine zl_icmp_eq (pc' := 1004) (tgt := 1115) dL_law_1001 rfl rfl (fun hc => ?_) (fun hc => ?_)
      · exact xL_law_j1115_j N L xs self hself v.1 s147
      · refine zl_lift (pc' := 1005) (fun _ => zq_iconst (v := 0) dL_law_1004 rfl rfl) ?_
        exact zl_none
    refine zl_ite (fun hc => ?_) (fun hn155 => ?_)
    · refine zl_tabIn (tgt := 1006) hc dL_law_32 (by decide) (by decide) rfl rfl ?_
      refine zl_lift (pc' := 1007) (fun _ => zq_aload_n rfl rfl dL_law_1006 rfl) ?_
      refine zl_lift (pc' := 1008) (fun _ => zq_aload_n rfl rfl dL_law_1007 rfl) ?_
      refine zl_lift (pc' := 1009) (fun _ => zq_iload_n rfl rfl dL_law_1008 rfl) ?_
      refine zl_lift (pc' := 1010) (fun _ => zq_iconst (v := 1) dL_law_1009 rfl rfl) ?_
      refine zl_lift (pc' := 1011) (fun _ => zq_iadd dL_law_1010 rfl) ?_
      refine zl_sld (pc' := 1012) dL_law_1011 rfl ?_
      refine zl_lift (pc' := 1013) (fun _ => zq_aload_n rfl rfl dL_law_1012 rfl) ?_
      refine zl_lift (pc' := 1014) (fun _ => zq_iload_n rfl rfl dL_law_1013 rfl) ?_
      refine zl_lift (pc' := 1015) (fun _ => zq_iconst (v := 2) dL_law_1014 rfl rfl) ?_
      refine zl_lift (pc' := 1016) (fun _ => zq_iadd dL_law_1015 rfl) ?_
      refine zl_sld (pc' := 1017) dL_law_1016 rfl ?_
      refine zl_lift (pc' := 1018) (fun _ => zq_aload_n rfl rfl dL_law_1017 rfl) ?_
      refine zl_lift (pc' := 1019) (fun _ => zq_iload_n rfl rfl dL_law_1018 rfl) ?_
      refine zl_lift (pc' := 1020) (fun _ => zq_iconst (v := 3) dL_law_1019 rfl rfl) ?_
      refine zl_lift (pc' := 1021) (fun _ => zq_iadd dL_law_1020 rfl) ?_
      refine zl_sld (pc' := 1022) dL_law_1021 rfl ?_
      refine zl_tern (pcJ := 1030) (lsJ := fun x149 => [.ref 1000000, .ref 0, .ref 57, .int v.1]) (stJ := fun x149 => [.int x149, .int (xs (Int32.toNatClampNeg (v.1 + (2 : Int32)))), .int (xs (Int32.toNatClampNeg (v.1 + (1 : Int32)))), .ref 0]) (fun x149 => ?_) (fun f hJ => ?_)
      rotate_left
      · refine zl_lif_eq (pc' := 1025) (tgt := 1029) dL_law_1022 rfl rfl (fun _ => ?_) (fun _ => ?_)
        · refine zl_lift (pc' := 1030) (fun _ => zq_iconst (v := 0) dL_law_1029 rfl rfl) ?_
          exact zl_lessJ (zq_cr (zq_cr (zq_cr (zq_cr zq_cn)))) (hJ _)
        · refine zl_lift (pc' := 1026) (fun _ => zq_iconst (v := 1) dL_law_1025 rfl rfl) ?_
          refine zl_lift (pc' := 1030) (fun _ => zq_goto dL_law_1026 rfl) ?_
          exact zl_lessJ (zq_cr (zq_cr (zq_cr (zq_cr zq_cn)))) (hJ _)
      refine zl_cVi (pc' := 1033) zcv_L_139 (cX11_bar_mc N (xs (Int32.toNatClampNeg (v.1 + (1 : Int32)))) (xs (Int32.toNatClampNeg (v.1 + (2 : Int32)))) x149 v.2) zob_0 rfl (by decide) (Nat.le_of_ble_eq_true rfl) dL_law_1030 rfl rfl (fun r150 s151 => ?_)
      refine zl_lift (pc' := 1034) (fun _ => zq_aload_n rfl rfl dL_law_1033 rfl) ?_
      refine zl_lift (pc' := 1035) (fun _ => zq_aload_n rfl rfl dL_law_1034 rfl) ?_
      refine zl_lift (pc' := 1036) (fun _ => zq_iload_n rfl rfl dL_law_1035 rfl) ?_
      refine zl_lift (pc' := 1037) (fun _ => zq_iconst (v := 1) dL_law_1036 rfl rfl) ?_
      refine zl_lift (pc' := 1038) (fun _ => zq_iadd dL_law_1037 rfl) ?_
      refine zl_sld (pc' := 1039) dL_law_1038 rfl ?_
      refine zl_lift (pc' := 1040) (fun _ => zq_aload_n rfl rfl dL_law_1039 rfl) ?_
      refine zl_lift (pc' := 1041) (fun _ => zq_iload_n rfl rfl dL_law_1040 rfl) ?_
      refine zl_lift (pc' := 1042) (fun _ => zq_iconst (v := 2) dL_law_1041 rfl rfl) ?_
      refine zl_lift (pc' := 1043) (fun _ => zq_iadd dL_law_1042 rfl) ?_
      refine zl_sld (pc' := 1044) dL_law_1043 rfl ?_
      refine zl_lift (pc' := 1045) (fun _ => zq_aload_n rfl rfl dL_law_1044 rfl) ?_
      refine zl_lift (pc' := 1046) (fun _ => zq_iload_n rfl rfl dL_law_1045 rfl) ?_
      refine zl_lift (pc' := 1047) (fun _ => zq_iconst (v := 3) dL_law_1046 rfl rfl) ?_
      refine zl_lift (pc' := 1048) (fun _ => zq_iadd dL_law_1047 rfl) ?_
      refine zl_sld (pc' := 1049) dL_law_1048 rfl ?_
      refine zl_tern (pcJ := 1057) (lsJ := fun x152 => [.ref 1000000, .ref 0, .ref 57, .int v.1]) (stJ := fun x152 => [.int x152, .int (xs (Int32.toNatClampNeg (v.1 + (2 : Int32)))), .int (xs (Int32.toNatClampNeg (v.1 + (1 : Int32)))), .ref 57, .int r150]) (fun x152 => ?_) (fun f hJ => ?_)
      rotate_left
      · refine zl_lif_eq (pc' := 1052) (tgt := 1056) dL_law_1049 rfl rfl (fun _ => ?_) (fun _ => ?_)
        · refine zl_lift (pc' := 1057) (fun _ => zq_iconst (v := 0) dL_law_1056 rfl rfl) ?_
          exact zl_lessJ (zq_cr (zq_cr (zq_cr (zq_cr zq_cn)))) (hJ _)
        · refine zl_lift (pc' := 1053) (fun _ => zq_iconst (v := 1) dL_law_1052 rfl rfl) ?_
          refine zl_lift (pc' := 1057) (fun _ => zq_goto dL_law_1053 rfl) ?_
          exact zl_lessJ (zq_cr (zq_cr (zq_cr (zq_cr zq_cn)))) (hJ _)
      refine zl_cVi (pc' := 1060) zcv_L_142 (cX12_bar_mc N (xs (Int32.toNatClampNeg (v.1 + (1 : Int32)))) (xs (Int32.toNatClampNeg (v.1 + (2 : Int32)))) x152 s151) zob_57 rfl (by decide) (Nat.le_of_ble_eq_true rfl) dL_law_1057 rfl rfl (fun r153 s154 => ?_)
      refine zl_icmp_eq (pc' := 1063) (tgt := 1115) dL_law_1060 rfl rfl (fun hc => ?_) (fun hc => ?_)
      · exact xL_law_j1115_j N L xs self hself v.1 s154
      · refine zl_lift (pc' := 1064) (fun _ => zq_iconst (v := 0) dL_law_1063 rfl rfl) ?_
        exact zl_none
    refine zl_ite (fun hc => ?_) (fun hn160 => ?_)
    · refine zl_tabIn (tgt := 1065) hc dL_law_32 (by decide) (by decide) rfl rfl ?_
      refine zl_lift (pc' := 1066) (fun _ => zq_aload_n rfl rfl dL_law_1065 rfl) ?_
      refine zl_lift (pc' := 1067) (fun _ => zq_aload_n rfl rfl dL_law_1066 rfl) ?_
      refine zl_lift (pc' := 1068) (fun _ => zq_iload_n rfl rfl dL_law_1067 rfl) ?_
      refine zl_lift (pc' := 1069) (fun _ => zq_iconst (v := 1) dL_law_1068 rfl rfl) ?_
      refine zl_lift (pc' := 1070) (fun _ => zq_iadd dL_law_1069 rfl) ?_
      refine zl_sld (pc' := 1071) dL_law_1070 rfl ?_
      refine zl_cVi (pc' := 1074) zcv_L_143 (cX11_breaks_mc N (xs (Int32.toNatClampNeg (v.1 + (1 : Int32)))) v.2) zob_0 rfl (by decide) (Nat.le_of_ble_eq_true rfl) dL_law_1071 rfl rfl (fun r156 s157 => ?_)
      refine zl_lift (pc' := 1075) (fun _ => zq_aload_n rfl rfl dL_law_1074 rfl) ?_
      refine zl_lift (pc' := 1076) (fun _ => zq_aload_n rfl rfl dL_law_1075 rfl) ?_
      refine zl_lift (pc' := 1077) (fun _ => zq_iload_n rfl rfl dL_law_1076 rfl) ?_
      refine zl_lift (pc' := 1078) (fun _ => zq_iconst (v := 1) dL_law_1077 rfl rfl) ?_
      refine zl_lift (pc' := 1079) (fun _ => zq_iadd dL_law_1078 rfl) ?_
      refine zl_sld (pc' := 1080) dL_law_1079 rfl ?_
      refine zl_cVi (pc' := 1083) zcv_L_146 (cX12_breaks_mc N (xs (Int32.toNatClampNeg (v.1 + (1 : Int32)))) s157) zob_57 rfl (by decide) (Nat.le_of_ble_eq_true rfl) dL_law_1080 rfl rfl (fun r158 s159 => ?_)
      refine zl_icmp_eq (pc' := 1086) (tgt := 1115) dL_law_1083 rfl rfl (fun hc => ?_) (fun hc => ?_)
      · exact xL_law_j1115_j N L xs self hself v.1 s159
      · refine zl_lift (pc' := 1087) (fun _ => zq_iconst (v := 0) dL_law_1086 rfl rfl) ?_
        exact zl_none
    refine zl_ite (fun hc => ?_) (fun hn165 => ?_)
    · refine zl_tabIn (tgt := 1088) hc dL_law_32 (by decide) (by decide) rfl rfl ?_
      refine zl_lift (pc' := 1089) (fun _ => zq_aload_n rfl rfl dL_law_1088 rfl) ?_
      refine zl_cVl (pc' := 1092) zcv_L_147 (cX11_clean_mc N v.2) zob_0 rfl (by decide) (Nat.le_of_ble_eq_true rfl) dL_law_1089 rfl rfl (fun r161 s162 => ?_)
      refine zl_lift (pc' := 1093) (fun _ => zq_aload_n rfl rfl dL_law_1092 rfl) ?_
      refine zl_cVl (pc' := 1096) zcv_L_150 (cX12_clean_mc N s162) zob_57 rfl (by decide) (Nat.le_of_ble_eq_true rfl) dL_law_1093 rfl rfl (fun r163 s164 => ?_)
      refine zl_lift (pc' := 1097) (fun _ => zq_lcmp dL_law_1096 rfl) ?_
      refine zl_if_eq (pc' := 1100) (tgt := 1115) dL_law_1097 rfl rfl (fun hc => ?_) (fun hc => ?_)
      · exact xL_law_j1115_j N L xs self hself v.1 s164
      · refine zl_lift (pc' := 1101) (fun _ => zq_iconst (v := 0) dL_law_1100 rfl rfl) ?_
        exact zl_none
    refine zl_ite (fun hc => ?_) (fun hn170 => ?_)
    · refine zl_tabIn (tgt := 1102) hc dL_law_32 (by decide) (by decide) rfl rfl ?_
      refine zl_lift (pc' := 1103) (fun _ => zq_aload_n rfl rfl dL_law_1102 rfl) ?_
      refine zl_cVi (pc' := 1106) zcv_L_151 (cX11_least_mc N v.2) zob_0 rfl (by decide) (Nat.le_of_ble_eq_true rfl) dL_law_1103 rfl rfl (fun r166 s167 => ?_)
      refine zl_lift (pc' := 1107) (fun _ => zq_aload_n rfl rfl dL_law_1106 rfl) ?_
      refine zl_cVi (pc' := 1110) zcv_L_154 (cX12_least_mc N s167) zob_57 rfl (by decide) (Nat.le_of_ble_eq_true rfl) dL_law_1107 rfl rfl (fun r168 s169 => ?_)
      refine zl_icmp_eq (pc' := 1113) (tgt := 1115) dL_law_1110 rfl rfl (fun hc => ?_) (fun hc => ?_)
      · exact xL_law_j1115_j N L xs self hself v.1 s169
      · refine zl_lift (pc' := 1114) (fun _ => zq_iconst (v := 0) dL_law_1113 rfl rfl) ?_
        exact zl_none
    refine zl_tabOut (tgt := 1115) dL_law_32 (by have := zq_tk (k := 0) hn6 (by decide); have := zq_tk (k := 1) hn11 (by decide); have := zq_tk (k := 2) hn16 (by decide); have := zq_tk (k := 3) hn21 (by decide); have := zq_tk (k := 4) hn26 (by decide); have := zq_tk (k := 5) hn31 (by decide); have := zq_tk (k := 6) hn38 (by decide); have := zq_tk (k := 7) hn43 (by decide); have := zq_tk (k := 8) hn48 (by decide); have := zq_tk (k := 9) hn53 (by decide); have := zq_tk (k := 10) hn58 (by decide); have := zq_tk (k := 11) hn63 (by decide); have := zq_tk (k := 12) hn68 (by decide); have := zq_tk (k := 13) hn73 (by decide); have := zq_tk (k := 14) hn78 (by decide); have := zq_tk (k := 15) hn83 (by decide); have := zq_tk (k := 16) hn88 (by decide); have := zq_tk (k := 17) hn93 (by decide); have := zq_tk (k := 18) hn98 (by decide); have := zq_tk (k := 19) hn103 (by decide); have := zq_tk (k := 20) hn108 (by decide); have := zq_tk (k := 21) hn113 (by decide); have := zq_tk (k := 22) hn118 (by decide); have := zq_tk (k := 23) hn123 (by decide); have := zq_tk (k := 24) hn128 (by decide); have := zq_tk (k := 25) hn133 (by decide); have := zq_tk (k := 26) hn138 (by decide); have := zq_tk (k := 27) hn143 (by decide); have := zq_tk (k := 28) hn148 (by decide); have := zq_tk (k := 29) hn155 (by decide); have := zq_tk (k := 30) hn160 (by decide); have := zq_tk (k := 31) hn165 (by decide); have := zq_tk (k := 32) hn170 (by decide); omega) rfl ?_
    exact xL_law_j1115_j N L xs self hself v.1 v.2
theorem yL_law_18 (N L : Nat) (xs : Nat → Int32)   (n : Nat) : ∀ v : Int32 × zq_S, zq_XL L xs 18 [.ref 1000000, .ref 0, .ref 57, .int v.1] [] v.2 (zq_loop (bL_law_18 N L xs ) n v) := by
  induction n with
  | zero => exact fun v y u hu => by cases hu
  | succ n ih =>
    intro v
    rw [zq_loop_s]
    exact xL_law_18 N L xs  (zq_loop (bL_law_18 N L xs ) n) ih v
def mL_law (N L : Nat) (xs : Nat → Int32) (s : zq_S) : Option (Int32 × zq_S) :=
zq_loop (bL_law_18 N L xs ) N ((0 : Int32), s)
theorem xL_law (N L : Nat) (xs : Nat → Int32) (s : zq_S) : zq_XL L xs 18 [.ref 1000000, .ref 0, .ref 57, .int (0 : Int32)] [] s (mL_law N L xs s) := by
  unfold mL_law
  refine yL_law_18 N L xs  N ((0 : Int32), s)
