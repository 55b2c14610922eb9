/-! the law, case by case -/
theorem zi_481 : zIn (.instanceMethod yX7_feed) := zin_at 481 (by decide +kernel) (by decide +kernel)
theorem zi_482 : zIn (.selects yX7_feed.cls yX7_feed yX7_feed) := zin_at 482 (by decide +kernel) (by decide +kernel)
theorem zi_489 : zIn (.instanceMethod yX7_errorPosition) := zin_at 489 (by decide +kernel) (by decide +kernel)
theorem zi_490 : zIn (.selects yX7_errorPosition.cls yX7_errorPosition yX7_errorPosition) := zin_at 490 (by decide +kernel) (by decide +kernel)
theorem zi_493 : zIn (.instanceMethod yX7_freeNumber) := zin_at 493 (by decide +kernel) (by decide +kernel)
theorem zi_494 : zIn (.selects yX7_freeNumber.cls yX7_freeNumber yX7_freeNumber) := zin_at 494 (by decide +kernel) (by decide +kernel)
theorem zi_526 : zIn (.instanceMethod yX7_whyNot) := zin_at 526 (by decide +kernel) (by decide +kernel)
theorem zi_527 : zIn (.selects yX7_whyNot.cls yX7_whyNot yX7_whyNot) := zin_at 527 (by decide +kernel) (by decide +kernel)
theorem zi_580 : zIn (.instanceMethod yX7_conflict) := zin_at 580 (by decide +kernel) (by decide +kernel)
theorem zi_581 : zIn (.selects yX7_conflict.cls yX7_conflict yX7_conflict) := zin_at 581 (by decide +kernel) (by decide +kernel)
theorem zi_584 : zIn (.instanceMethod yX7_rewrites) := zin_at 584 (by decide +kernel) (by decide +kernel)
theorem zi_585 : zIn (.selects yX7_rewrites.cls yX7_rewrites yX7_rewrites) := zin_at 585 (by decide +kernel) (by decide +kernel)
theorem zi_592 : zIn (.instanceMethod yX7_openIn) := zin_at 592 (by decide +kernel) (by decide +kernel)
theorem zi_593 : zIn (.selects yX7_openIn.cls yX7_openIn yX7_openIn) := zin_at 593 (by decide +kernel) (by decide +kernel)
theorem zi_604 : zIn (.instanceMethod yX7_movedShare) := zin_at 604 (by decide +kernel) (by decide +kernel)
theorem zi_605 : zIn (.selects yX7_movedShare.cls yX7_movedShare yX7_movedShare) := zin_at 605 (by decide +kernel) (by decide +kernel)
theorem zi_612 : zIn (.instanceMethod yX7_meanReach) := zin_at 612 (by decide +kernel) (by decide +kernel)
theorem zi_613 : zIn (.selects yX7_meanReach.cls yX7_meanReach yX7_meanReach) := zin_at 613 (by decide +kernel) (by decide +kernel)
theorem zi_632 : zIn (.instanceMethod yX7_settle) := zin_at 632 (by decide +kernel) (by decide +kernel)
theorem zi_633 : zIn (.selects yX7_settle.cls yX7_settle yX7_settle) := zin_at 633 (by decide +kernel) (by decide +kernel)
theorem zi_664 : zIn (.instanceMethod yX7_wave) := zin_at 664 (by decide +kernel) (by decide +kernel)
theorem zi_665 : zIn (.selects yX7_wave.cls yX7_wave yX7_wave) := zin_at 665 (by decide +kernel) (by decide +kernel)
theorem zi_672 : zIn (.instanceMethod yX7_back) := zin_at 672 (by decide +kernel) (by decide +kernel)
theorem zi_673 : zIn (.selects yX7_back.cls yX7_back yX7_back) := zin_at 673 (by decide +kernel) (by decide +kernel)
theorem zi_688 : zIn (.instanceMethod yX7_open) := zin_at 688 (by decide +kernel) (by decide +kernel)
theorem zi_689 : zIn (.selects yX7_open.cls yX7_open yX7_open) := zin_at 689 (by decide +kernel) (by decide +kernel)
theorem zi_692 : zIn (.instanceMethod yX7_close) := zin_at 692 (by decide +kernel) (by decide +kernel)
theorem zi_693 : zIn (.selects yX7_close.cls yX7_close yX7_close) := zin_at 693 (by decide +kernel) (by decide +kernel)
theorem zi_700 : zIn (.instanceMethod yX7_formattedByte) := zin_at 700 (by decide +kernel) (by decide +kernel)
theorem zi_701 : zIn (.selects yX7_formattedByte.cls yX7_formattedByte yX7_formattedByte) := zin_at 701 (by decide +kernel) (by decide +kernel)
theorem zi_708 : zIn (.instanceMethod yX7_undoCount) := zin_at 708 (by decide +kernel) (by decide +kernel)
theorem zi_709 : zIn (.selects yX7_undoCount.cls yX7_undoCount yX7_undoCount) := zin_at 709 (by decide +kernel) (by decide +kernel)
theorem zi_712 : zIn (.instanceMethod yX7_undo) := zin_at 712 (by decide +kernel) (by decide +kernel)
theorem zi_713 : zIn (.selects yX7_undo.cls yX7_undo yX7_undo) := zin_at 713 (by decide +kernel) (by decide +kernel)
theorem zi_720 : zIn (.instanceMethod yX7_saveSnapshot) := zin_at 720 (by decide +kernel) (by decide +kernel)
theorem zi_721 : zIn (.selects yX7_saveSnapshot.cls yX7_saveSnapshot yX7_saveSnapshot) := zin_at 721 (by decide +kernel) (by decide +kernel)
theorem zi_724 : zIn (.instanceMethod yX7_restoreSnapshot) := zin_at 724 (by decide +kernel) (by decide +kernel)
theorem zi_725 : zIn (.selects yX7_restoreSnapshot.cls yX7_restoreSnapshot yX7_restoreSnapshot) := zin_at 725 (by decide +kernel) (by decide +kernel)
theorem zi_732 : zIn (.static yL_load) := zin_at 732 (by decide +kernel) (by decide +kernel)
theorem zi_969 : zIn (.static yL_size) := zin_at 969 (by decide +kernel) (by decide +kernel)
theorem zi_1000 : zIn (.static yL_host) := zin_at 1000 (by decide +kernel) (by decide +kernel)
theorem zi_1012 : zIn (.static yL_name) := zin_at 1012 (by decide +kernel) (by decide +kernel)
theorem zi_1022 : zIn (.static yL_holder) := zin_at 1022 (by decide +kernel) (by decide +kernel)
theorem zi_1036 : zIn (.static yL_clash) := zin_at 1036 (by decide +kernel) (by decide +kernel)
theorem zi_1047 : zIn (.static yL_plans) := zin_at 1047 (by decide +kernel) (by decide +kernel)
theorem zi_1058 : zIn (.static yL_rule) := zin_at 1058 (by decide +kernel) (by decide +kernel)
theorem zi_1069 : zIn (.static yL_decides) := zin_at 1069 (by decide +kernel) (by decide +kernel)
theorem zi_1088 : zIn (.static yL_allows) := zin_at 1088 (by decide +kernel) (by decide +kernel)
theorem zi_1096 : zIn (.static yL_reach) := zin_at 1096 (by decide +kernel) (by decide +kernel)
theorem zi_1103 : zIn (.static yL_clashesIn) := zin_at 1103 (by decide +kernel) (by decide +kernel)
theorem zi_1110 : zIn (.static yL_addHost) := zin_at 1110 (by decide +kernel) (by decide +kernel)
theorem zi_1119 : zIn (.static yL_removeHost) := zin_at 1119 (by decide +kernel) (by decide +kernel)
theorem zi_1130 : zIn (.static yL_plan) := zin_at 1130 (by decide +kernel) (by decide +kernel)
theorem zi_1137 : zIn (.static yL_unplan) := zin_at 1137 (by decide +kernel) (by decide +kernel)
theorem zi_1144 : zIn (.static yL_addRule) := zin_at 1144 (by decide +kernel) (by decide +kernel)
theorem zi_1155 : zIn (.static yL_removeRule) := zin_at 1155 (by decide +kernel) (by decide +kernel)
theorem zi_1166 : zIn (.static yL_setKeep) := zin_at 1166 (by decide +kernel) (by decide +kernel)
theorem zi_1173 : zIn (.static yL_setPinned) := zin_at 1173 (by decide +kernel) (by decide +kernel)
theorem zi_1180 : zIn (.static yL_format) := zin_at 1180 (by decide +kernel) (by decide +kernel)
theorem zi_1205 : zIn (.static yL_query) := zin_at 1205 (by decide +kernel) (by decide +kernel)
theorem zi_1295 : zIn (.instanceMethod yX8_thrown) := zin_at 1295 (by decide +kernel) (by decide +kernel)
theorem zi_1296 : zIn (.selects yX8_thrown.cls yX8_thrown yX8_thrown) := zin_at 1296 (by decide +kernel) (by decide +kernel)
theorem zi_1400 : zIn (.instanceMethod yX8_feed) := zin_at 1400 (by decide +kernel) (by decide +kernel)
theorem zi_1401 : zIn (.selects yX8_feed.cls yX8_feed yX8_feed) := zin_at 1401 (by decide +kernel) (by decide +kernel)
theorem zi_1408 : zIn (.instanceMethod yX8_errorPosition) := zin_at 1408 (by decide +kernel) (by decide +kernel)
theorem zi_1409 : zIn (.selects yX8_errorPosition.cls yX8_errorPosition yX8_errorPosition) := zin_at 1409 (by decide +kernel) (by decide +kernel)
theorem zi_1412 : zIn (.instanceMethod yX8_load) := zin_at 1412 (by decide +kernel) (by decide +kernel)
theorem zi_1413 : zIn (.selects yX8_load.cls yX8_load yX8_load) := zin_at 1413 (by decide +kernel) (by decide +kernel)
theorem zi_1539 : zIn (.instanceMethod yX8_size) := zin_at 1539 (by decide +kernel) (by decide +kernel)
theorem zi_1540 : zIn (.selects yX8_size.cls yX8_size yX8_size) := zin_at 1540 (by decide +kernel) (by decide +kernel)
theorem zi_1584 : zIn (.instanceMethod yX8_host) := zin_at 1584 (by decide +kernel) (by decide +kernel)
theorem zi_1585 : zIn (.selects yX8_host.cls yX8_host yX8_host) := zin_at 1585 (by decide +kernel) (by decide +kernel)
theorem zi_1593 : zIn (.instanceMethod yX8_name) := zin_at 1593 (by decide +kernel) (by decide +kernel)
theorem zi_1594 : zIn (.selects yX8_name.cls yX8_name yX8_name) := zin_at 1594 (by decide +kernel) (by decide +kernel)
theorem zi_1597 : zIn (.instanceMethod yX8_holder) := zin_at 1597 (by decide +kernel) (by decide +kernel)
theorem zi_1598 : zIn (.selects yX8_holder.cls yX8_holder yX8_holder) := zin_at 1598 (by decide +kernel) (by decide +kernel)
theorem zi_1607 : zIn (.instanceMethod yX8_clash) := zin_at 1607 (by decide +kernel) (by decide +kernel)
theorem zi_1608 : zIn (.selects yX8_clash.cls yX8_clash yX8_clash) := zin_at 1608 (by decide +kernel) (by decide +kernel)
theorem zi_1611 : zIn (.instanceMethod yX8_plans) := zin_at 1611 (by decide +kernel) (by decide +kernel)
theorem zi_1612 : zIn (.selects yX8_plans.cls yX8_plans yX8_plans) := zin_at 1612 (by decide +kernel) (by decide +kernel)
theorem zi_1618 : zIn (.instanceMethod yX8_rule) := zin_at 1618 (by decide +kernel) (by decide +kernel)
theorem zi_1619 : zIn (.selects yX8_rule.cls yX8_rule yX8_rule) := zin_at 1619 (by decide +kernel) (by decide +kernel)
theorem zi_1627 : zIn (.instanceMethod yX8_decides) := zin_at 1627 (by decide +kernel) (by decide +kernel)
theorem zi_1628 : zIn (.selects yX8_decides.cls yX8_decides yX8_decides) := zin_at 1628 (by decide +kernel) (by decide +kernel)
theorem zi_1643 : zIn (.instanceMethod yX8_allows) := zin_at 1643 (by decide +kernel) (by decide +kernel)
theorem zi_1644 : zIn (.selects yX8_allows.cls yX8_allows yX8_allows) := zin_at 1644 (by decide +kernel) (by decide +kernel)
theorem zi_1651 : zIn (.instanceMethod yX8_reach) := zin_at 1651 (by decide +kernel) (by decide +kernel)
theorem zi_1652 : zIn (.selects yX8_reach.cls yX8_reach yX8_reach) := zin_at 1652 (by decide +kernel) (by decide +kernel)
theorem zi_1663 : zIn (.instanceMethod yX8_freeNumber) := zin_at 1663 (by decide +kernel) (by decide +kernel)
theorem zi_1664 : zIn (.selects yX8_freeNumber.cls yX8_freeNumber yX8_freeNumber) := zin_at 1664 (by decide +kernel) (by decide +kernel)
theorem zi_1675 : zIn (.instanceMethod yX8_whyNot) := zin_at 1675 (by decide +kernel) (by decide +kernel)
theorem zi_1676 : zIn (.selects yX8_whyNot.cls yX8_whyNot yX8_whyNot) := zin_at 1676 (by decide +kernel) (by decide +kernel)
theorem zi_1719 : zIn (.instanceMethod yX8_conflict) := zin_at 1719 (by decide +kernel) (by decide +kernel)
theorem zi_1720 : zIn (.selects yX8_conflict.cls yX8_conflict yX8_conflict) := zin_at 1720 (by decide +kernel) (by decide +kernel)
theorem zi_1723 : zIn (.instanceMethod yX8_rewrites) := zin_at 1723 (by decide +kernel) (by decide +kernel)
theorem zi_1724 : zIn (.selects yX8_rewrites.cls yX8_rewrites yX8_rewrites) := zin_at 1724 (by decide +kernel) (by decide +kernel)
theorem zi_1727 : zIn (.instanceMethod yX8_clashesIn) := zin_at 1727 (by decide +kernel) (by decide +kernel)
theorem zi_1728 : zIn (.selects yX8_clashesIn.cls yX8_clashesIn yX8_clashesIn) := zin_at 1728 (by decide +kernel) (by decide +kernel)
theorem zi_1731 : zIn (.instanceMethod yX8_openIn) := zin_at 1731 (by decide +kernel) (by decide +kernel)
theorem zi_1732 : zIn (.selects yX8_openIn.cls yX8_openIn yX8_openIn) := zin_at 1732 (by decide +kernel) (by decide +kernel)
theorem zi_1735 : zIn (.instanceMethod yX8_movedShare) := zin_at 1735 (by decide +kernel) (by decide +kernel)
theorem zi_1736 : zIn (.selects yX8_movedShare.cls yX8_movedShare yX8_movedShare) := zin_at 1736 (by decide +kernel) (by decide +kernel)
theorem zi_1739 : zIn (.instanceMethod yX8_meanReach) := zin_at 1739 (by decide +kernel) (by decide +kernel)
theorem zi_1740 : zIn (.selects yX8_meanReach.cls yX8_meanReach yX8_meanReach) := zin_at 1740 (by decide +kernel) (by decide +kernel)
theorem zi_1743 : zIn (.instanceMethod yX8_addHost) := zin_at 1743 (by decide +kernel) (by decide +kernel)
theorem zi_1744 : zIn (.selects yX8_addHost.cls yX8_addHost yX8_addHost) := zin_at 1744 (by decide +kernel) (by decide +kernel)
theorem zi_1755 : zIn (.instanceMethod yX8_removeHost) := zin_at 1755 (by decide +kernel) (by decide +kernel)
theorem zi_1756 : zIn (.selects yX8_removeHost.cls yX8_removeHost yX8_removeHost) := zin_at 1756 (by decide +kernel) (by decide +kernel)
theorem zi_1759 : zIn (.instanceMethod yX8_plan) := zin_at 1759 (by decide +kernel) (by decide +kernel)
theorem zi_1760 : zIn (.selects yX8_plan.cls yX8_plan yX8_plan) := zin_at 1760 (by decide +kernel) (by decide +kernel)
theorem zi_1763 : zIn (.instanceMethod yX8_unplan) := zin_at 1763 (by decide +kernel) (by decide +kernel)
theorem zi_1764 : zIn (.selects yX8_unplan.cls yX8_unplan yX8_unplan) := zin_at 1764 (by decide +kernel) (by decide +kernel)
theorem zi_1771 : zIn (.instanceMethod yX8_settle) := zin_at 1771 (by decide +kernel) (by decide +kernel)
theorem zi_1772 : zIn (.selects yX8_settle.cls yX8_settle yX8_settle) := zin_at 1772 (by decide +kernel) (by decide +kernel)
theorem zi_1783 : zIn (.instanceMethod yX8_wave) := zin_at 1783 (by decide +kernel) (by decide +kernel)
theorem zi_1784 : zIn (.selects yX8_wave.cls yX8_wave yX8_wave) := zin_at 1784 (by decide +kernel) (by decide +kernel)
theorem zi_1787 : zIn (.instanceMethod yX8_back) := zin_at 1787 (by decide +kernel) (by decide +kernel)
theorem zi_1788 : zIn (.selects yX8_back.cls yX8_back yX8_back) := zin_at 1788 (by decide +kernel) (by decide +kernel)
theorem zi_1795 : zIn (.instanceMethod yX8_open) := zin_at 1795 (by decide +kernel) (by decide +kernel)
theorem zi_1796 : zIn (.selects yX8_open.cls yX8_open yX8_open) := zin_at 1796 (by decide +kernel) (by decide +kernel)
theorem zi_1799 : zIn (.instanceMethod yX8_close) := zin_at 1799 (by decide +kernel) (by decide +kernel)
theorem zi_1800 : zIn (.selects yX8_close.cls yX8_close yX8_close) := zin_at 1800 (by decide +kernel) (by decide +kernel)
theorem zi_1803 : zIn (.instanceMethod yX8_addRule) := zin_at 1803 (by decide +kernel) (by decide +kernel)
theorem zi_1804 : zIn (.selects yX8_addRule.cls yX8_addRule yX8_addRule) := zin_at 1804 (by decide +kernel) (by decide +kernel)
theorem zi_1810 : zIn (.instanceMethod yX8_removeRule) := zin_at 1810 (by decide +kernel) (by decide +kernel)
theorem zi_1811 : zIn (.selects yX8_removeRule.cls yX8_removeRule yX8_removeRule) := zin_at 1811 (by decide +kernel) (by decide +kernel)
theorem zi_1814 : zIn (.instanceMethod yX8_setKeep) := zin_at 1814 (by decide +kernel) (by decide +kernel)
theorem zi_1815 : zIn (.selects yX8_setKeep.cls yX8_setKeep yX8_setKeep) := zin_at 1815 (by decide +kernel) (by decide +kernel)
theorem zi_1818 : zIn (.instanceMethod yX8_setPinned) := zin_at 1818 (by decide +kernel) (by decide +kernel)
theorem zi_1819 : zIn (.selects yX8_setPinned.cls yX8_setPinned yX8_setPinned) := zin_at 1819 (by decide +kernel) (by decide +kernel)
theorem zi_1822 : zIn (.instanceMethod yX8_undoCount) := zin_at 1822 (by decide +kernel) (by decide +kernel)
theorem zi_1823 : zIn (.selects yX8_undoCount.cls yX8_undoCount yX8_undoCount) := zin_at 1823 (by decide +kernel) (by decide +kernel)
theorem zi_1826 : zIn (.instanceMethod yX8_undo) := zin_at 1826 (by decide +kernel) (by decide +kernel)
theorem zi_1827 : zIn (.selects yX8_undo.cls yX8_undo yX8_undo) := zin_at 1827 (by decide +kernel) (by decide +kernel)
theorem zi_1830 : zIn (.instanceMethod yX8_saveSnapshot) := zin_at 1830 (by decide +kernel) (by decide +kernel)
theorem zi_1831 : zIn (.selects yX8_saveSnapshot.cls yX8_saveSnapshot yX8_saveSnapshot) := zin_at 1831 (by decide +kernel) (by decide +kernel)
theorem zi_1834 : zIn (.instanceMethod yX8_restoreSnapshot) := zin_at 1834 (by decide +kernel) (by decide +kernel)
theorem zi_1835 : zIn (.selects yX8_restoreSnapshot.cls yX8_restoreSnapshot yX8_restoreSnapshot) := zin_at 1835 (by decide +kernel) (by decide +kernel)
theorem zi_1838 : zIn (.instanceMethod yX8_format) := zin_at 1838 (by decide +kernel) (by decide +kernel)
theorem zi_1839 : zIn (.selects yX8_format.cls yX8_format yX8_format) := zin_at 1839 (by decide +kernel) (by decide +kernel)
theorem zi_1850 : zIn (.instanceMethod yX8_formattedByte) := zin_at 1850 (by decide +kernel) (by decide +kernel)
theorem zi_1851 : zIn (.selects yX8_formattedByte.cls yX8_formattedByte yX8_formattedByte) := zin_at 1851 (by decide +kernel) (by decide +kernel)
theorem zi_1854 : zIn (.instanceMethod yX8_query) := zin_at 1854 (by decide +kernel) (by decide +kernel)
theorem zi_1855 : zIn (.selects yX8_query.cls yX8_query yX8_query) := zin_at 1855 (by decide +kernel) (by decide +kernel)
theorem zl_RL_89 : zIn (.methodLink RL 89 yX7_feed) := zin_at 480 (by decide +kernel) (by decide +kernel)
theorem zl_RL_93 : zIn (.methodLink RL 93 yX8_feed) := zin_at 1399 (by decide +kernel) (by decide +kernel)
theorem zl_RL_94 : zIn (.methodLink RL 94 yL_load) := zin_at 731 (by decide +kernel) (by decide +kernel)
theorem zl_RL_99 : zIn (.methodLink RL 99 yX8_load) := zin_at 1411 (by decide +kernel) (by decide +kernel)
theorem zl_RL_100 : zIn (.methodLink RL 100 yX8_thrown) := zin_at 1294 (by decide +kernel) (by decide +kernel)
theorem zl_RL_104 : zIn (.methodLink RL 104 yX7_errorPosition) := zin_at 488 (by decide +kernel) (by decide +kernel)
theorem zl_RL_107 : zIn (.methodLink RL 107 yX8_errorPosition) := zin_at 1407 (by decide +kernel) (by decide +kernel)
theorem zl_RL_108 : zIn (.methodLink RL 108 yL_size) := zin_at 968 (by decide +kernel) (by decide +kernel)
theorem zl_RL_110 : zIn (.methodLink RL 110 yX8_size) := zin_at 1538 (by decide +kernel) (by decide +kernel)
theorem zl_RL_111 : zIn (.methodLink RL 111 yL_host) := zin_at 999 (by decide +kernel) (by decide +kernel)
theorem zl_RL_114 : zIn (.methodLink RL 114 yX8_host) := zin_at 1583 (by decide +kernel) (by decide +kernel)
theorem zl_RL_115 : zIn (.methodLink RL 115 yL_name) := zin_at 1011 (by decide +kernel) (by decide +kernel)
theorem zl_RL_117 : zIn (.methodLink RL 117 yX8_name) := zin_at 1592 (by decide +kernel) (by decide +kernel)
theorem zl_RL_118 : zIn (.methodLink RL 118 yL_holder) := zin_at 1021 (by decide +kernel) (by decide +kernel)
theorem zl_RL_120 : zIn (.methodLink RL 120 yX8_holder) := zin_at 1596 (by decide +kernel) (by decide +kernel)
theorem zl_RL_121 : zIn (.methodLink RL 121 yL_clash) := zin_at 1035 (by decide +kernel) (by decide +kernel)
theorem zl_RL_123 : zIn (.methodLink RL 123 yX8_clash) := zin_at 1606 (by decide +kernel) (by decide +kernel)
theorem zl_RL_124 : zIn (.methodLink RL 124 yL_plans) := zin_at 1046 (by decide +kernel) (by decide +kernel)
theorem zl_RL_126 : zIn (.methodLink RL 126 yX8_plans) := zin_at 1610 (by decide +kernel) (by decide +kernel)
theorem zl_RL_127 : zIn (.methodLink RL 127 yL_rule) := zin_at 1057 (by decide +kernel) (by decide +kernel)
theorem zl_RL_129 : zIn (.methodLink RL 129 yX8_rule) := zin_at 1617 (by decide +kernel) (by decide +kernel)
theorem zl_RL_130 : zIn (.methodLink RL 130 yL_decides) := zin_at 1068 (by decide +kernel) (by decide +kernel)
theorem zl_RL_133 : zIn (.methodLink RL 133 yX8_decides) := zin_at 1626 (by decide +kernel) (by decide +kernel)
theorem zl_RL_134 : zIn (.methodLink RL 134 yL_allows) := zin_at 1087 (by decide +kernel) (by decide +kernel)
theorem zl_RL_136 : zIn (.methodLink RL 136 yX8_allows) := zin_at 1642 (by decide +kernel) (by decide +kernel)
theorem zl_RL_137 : zIn (.methodLink RL 137 yL_reach) := zin_at 1095 (by decide +kernel) (by decide +kernel)
theorem zl_RL_139 : zIn (.methodLink RL 139 yX8_reach) := zin_at 1650 (by decide +kernel) (by decide +kernel)
theorem zl_RL_140 : zIn (.methodLink RL 140 yX7_freeNumber) := zin_at 492 (by decide +kernel) (by decide +kernel)
theorem zl_RL_143 : zIn (.methodLink RL 143 yX8_freeNumber) := zin_at 1662 (by decide +kernel) (by decide +kernel)
theorem zl_RL_144 : zIn (.methodLink RL 144 yX7_whyNot) := zin_at 525 (by decide +kernel) (by decide +kernel)
theorem zl_RL_147 : zIn (.methodLink RL 147 yX8_whyNot) := zin_at 1674 (by decide +kernel) (by decide +kernel)
theorem zl_RL_148 : zIn (.methodLink RL 148 yX7_conflict) := zin_at 579 (by decide +kernel) (by decide +kernel)
theorem zl_RL_151 : zIn (.methodLink RL 151 yX8_conflict) := zin_at 1718 (by decide +kernel) (by decide +kernel)
theorem zl_RL_152 : zIn (.methodLink RL 152 yX7_rewrites) := zin_at 583 (by decide +kernel) (by decide +kernel)
theorem zl_RL_155 : zIn (.methodLink RL 155 yX8_rewrites) := zin_at 1722 (by decide +kernel) (by decide +kernel)
theorem zl_RL_156 : zIn (.methodLink RL 156 yL_clashesIn) := zin_at 1102 (by decide +kernel) (by decide +kernel)
theorem zl_RL_158 : zIn (.methodLink RL 158 yX8_clashesIn) := zin_at 1726 (by decide +kernel) (by decide +kernel)
theorem zl_RL_159 : zIn (.methodLink RL 159 yX7_openIn) := zin_at 591 (by decide +kernel) (by decide +kernel)
theorem zl_RL_162 : zIn (.methodLink RL 162 yX8_openIn) := zin_at 1730 (by decide +kernel) (by decide +kernel)
theorem zl_RL_163 : zIn (.methodLink RL 163 yX7_movedShare) := zin_at 603 (by decide +kernel) (by decide +kernel)
theorem zl_RL_167 : zIn (.methodLink RL 167 yX8_movedShare) := zin_at 1734 (by decide +kernel) (by decide +kernel)
theorem zl_RL_168 : zIn (.methodLink RL 168 yX7_meanReach) := zin_at 611 (by decide +kernel) (by decide +kernel)
theorem zl_RL_172 : zIn (.methodLink RL 172 yX8_meanReach) := zin_at 1738 (by decide +kernel) (by decide +kernel)
theorem zl_RL_173 : zIn (.methodLink RL 173 yL_addHost) := zin_at 1109 (by decide +kernel) (by decide +kernel)
theorem zl_RL_175 : zIn (.methodLink RL 175 yX8_addHost) := zin_at 1742 (by decide +kernel) (by decide +kernel)
theorem zl_RL_176 : zIn (.methodLink RL 176 yL_removeHost) := zin_at 1118 (by decide +kernel) (by decide +kernel)
theorem zl_RL_178 : zIn (.methodLink RL 178 yX8_removeHost) := zin_at 1754 (by decide +kernel) (by decide +kernel)
theorem zl_RL_179 : zIn (.methodLink RL 179 yL_plan) := zin_at 1129 (by decide +kernel) (by decide +kernel)
theorem zl_RL_181 : zIn (.methodLink RL 181 yX8_plan) := zin_at 1758 (by decide +kernel) (by decide +kernel)
theorem zl_RL_182 : zIn (.methodLink RL 182 yL_unplan) := zin_at 1136 (by decide +kernel) (by decide +kernel)
theorem zl_RL_184 : zIn (.methodLink RL 184 yX8_unplan) := zin_at 1762 (by decide +kernel) (by decide +kernel)
theorem zl_RL_185 : zIn (.methodLink RL 185 yX7_settle) := zin_at 631 (by decide +kernel) (by decide +kernel)
theorem zl_RL_188 : zIn (.methodLink RL 188 yX8_settle) := zin_at 1770 (by decide +kernel) (by decide +kernel)
theorem zl_RL_189 : zIn (.methodLink RL 189 yX7_wave) := zin_at 663 (by decide +kernel) (by decide +kernel)
theorem zl_RL_192 : zIn (.methodLink RL 192 yX8_wave) := zin_at 1782 (by decide +kernel) (by decide +kernel)
theorem zl_RL_193 : zIn (.methodLink RL 193 yX7_back) := zin_at 671 (by decide +kernel) (by decide +kernel)
theorem zl_RL_196 : zIn (.methodLink RL 196 yX8_back) := zin_at 1786 (by decide +kernel) (by decide +kernel)
theorem zl_RL_197 : zIn (.methodLink RL 197 yX7_open) := zin_at 687 (by decide +kernel) (by decide +kernel)
theorem zl_RL_200 : zIn (.methodLink RL 200 yX8_open) := zin_at 1794 (by decide +kernel) (by decide +kernel)
theorem zl_RL_201 : zIn (.methodLink RL 201 yX7_close) := zin_at 691 (by decide +kernel) (by decide +kernel)
theorem zl_RL_204 : zIn (.methodLink RL 204 yX8_close) := zin_at 1798 (by decide +kernel) (by decide +kernel)
theorem zl_RL_205 : zIn (.methodLink RL 205 yL_addRule) := zin_at 1143 (by decide +kernel) (by decide +kernel)
theorem zl_RL_208 : zIn (.methodLink RL 208 yX8_addRule) := zin_at 1802 (by decide +kernel) (by decide +kernel)
theorem zl_RL_209 : zIn (.methodLink RL 209 yL_removeRule) := zin_at 1154 (by decide +kernel) (by decide +kernel)
theorem zl_RL_211 : zIn (.methodLink RL 211 yX8_removeRule) := zin_at 1809 (by decide +kernel) (by decide +kernel)
theorem zl_RL_212 : zIn (.methodLink RL 212 yL_setKeep) := zin_at 1165 (by decide +kernel) (by decide +kernel)
theorem zl_RL_214 : zIn (.methodLink RL 214 yX8_setKeep) := zin_at 1813 (by decide +kernel) (by decide +kernel)
theorem zl_RL_215 : zIn (.methodLink RL 215 yL_setPinned) := zin_at 1172 (by decide +kernel) (by decide +kernel)
theorem zl_RL_218 : zIn (.methodLink RL 218 yX8_setPinned) := zin_at 1817 (by decide +kernel) (by decide +kernel)
theorem zl_RL_219 : zIn (.methodLink RL 219 yL_format) := zin_at 1179 (by decide +kernel) (by decide +kernel)
theorem zl_RL_221 : zIn (.methodLink RL 221 yX8_format) := zin_at 1837 (by decide +kernel) (by decide +kernel)
theorem zl_RL_222 : zIn (.methodLink RL 222 yX7_formattedByte) := zin_at 699 (by decide +kernel) (by decide +kernel)
theorem zl_RL_225 : zIn (.methodLink RL 225 yX8_formattedByte) := zin_at 1849 (by decide +kernel) (by decide +kernel)
theorem zl_RL_226 : zIn (.methodLink RL 226 yX7_undoCount) := zin_at 707 (by decide +kernel) (by decide +kernel)
theorem zl_RL_229 : zIn (.methodLink RL 229 yX8_undoCount) := zin_at 1821 (by decide +kernel) (by decide +kernel)
theorem zl_RL_230 : zIn (.methodLink RL 230 yX7_undo) := zin_at 711 (by decide +kernel) (by decide +kernel)
theorem zl_RL_233 : zIn (.methodLink RL 233 yX8_undo) := zin_at 1825 (by decide +kernel) (by decide +kernel)
theorem zl_RL_234 : zIn (.methodLink RL 234 yX7_saveSnapshot) := zin_at 719 (by decide +kernel) (by decide +kernel)
theorem zl_RL_237 : zIn (.methodLink RL 237 yX8_saveSnapshot) := zin_at 1829 (by decide +kernel) (by decide +kernel)
theorem zl_RL_238 : zIn (.methodLink RL 238 yX7_restoreSnapshot) := zin_at 723 (by decide +kernel) (by decide +kernel)
theorem zl_RL_242 : zIn (.methodLink RL 242 yX8_restoreSnapshot) := zin_at 1833 (by decide +kernel) (by decide +kernel)
theorem zl_RL_243 : zIn (.methodLink RL 243 yL_query) := zin_at 1204 (by decide +kernel) (by decide +kernel)
theorem zl_RL_245 : zIn (.methodLink RL 245 yX8_query) := zin_at 1853 (by decide +kernel) (by decide +kernel)
theorem zch_L_addHost : zIn (.initialized yL_addHost.cls) ∧ zIn (.codeWith yL_addHost cL_addHost 5 (some .int) [(0, 10, 13, 18), (0, 10, 17, 13)]) ∧ (yL_addHost.cls ≠ "java/lang/invoke/MethodHandle" ∧ yL_addHost.cls ≠ "java/lang/invoke/VarHandle") ∧ (parseMethodDescriptor yL_addHost.desc).map (fun d => d.parameters.length) = some 4 := ⟨zin_at 166 (by decide +kernel) (by decide +kernel), zin_at 1111 (by decide +kernel) (by decide +kernel), by decide, by decide +kernel⟩
theorem zch_L_addRule : zIn (.initialized yL_addRule.cls) ∧ zIn (.codeWith yL_addRule cL_addRule 7 (some .int) [(0, 14, 17, 18), (0, 14, 21, 13)]) ∧ (yL_addRule.cls ≠ "java/lang/invoke/MethodHandle" ∧ yL_addRule.cls ≠ "java/lang/invoke/VarHandle") ∧ (parseMethodDescriptor yL_addRule.desc).map (fun d => d.parameters.length) = some 6 := ⟨zin_at 166 (by decide +kernel) (by decide +kernel), zin_at 1145 (by decide +kernel) (by decide +kernel), by decide, by decide +kernel⟩
theorem zch_L_allows : zIn (.initialized yL_allows.cls) ∧ zIn (.codeWith yL_allows cL_allows 6 (some .int) [(0, 19, 22, 18), (0, 19, 26, 13)]) ∧ (yL_allows.cls ≠ "java/lang/invoke/MethodHandle" ∧ yL_allows.cls ≠ "java/lang/invoke/VarHandle") ∧ (parseMethodDescriptor yL_allows.desc).map (fun d => d.parameters.length) = some 5 := ⟨zin_at 166 (by decide +kernel) (by decide +kernel), zin_at 1089 (by decide +kernel) (by decide +kernel), by decide, by decide +kernel⟩
theorem zch_L_clash : zIn (.initialized yL_clash.cls) ∧ zIn (.codeWith yL_clash cL_clash 4 (some .int) [(0, 9, 12, 18)]) ∧ (yL_clash.cls ≠ "java/lang/invoke/MethodHandle" ∧ yL_clash.cls ≠ "java/lang/invoke/VarHandle") ∧ (parseMethodDescriptor yL_clash.desc).map (fun d => d.parameters.length) = some 3 := ⟨zin_at 166 (by decide +kernel) (by decide +kernel), zin_at 1037 (by decide +kernel) (by decide +kernel), by decide, by decide +kernel⟩
theorem zch_L_clashesIn : zIn (.initialized yL_clashesIn.cls) ∧ zIn (.codeWith yL_clashesIn cL_clashesIn 4 (some .int) [(0, 9, 12, 13)]) ∧ (yL_clashesIn.cls ≠ "java/lang/invoke/MethodHandle" ∧ yL_clashesIn.cls ≠ "java/lang/invoke/VarHandle") ∧ (parseMethodDescriptor yL_clashesIn.desc).map (fun d => d.parameters.length) = some 3 := ⟨zin_at 166 (by decide +kernel) (by decide +kernel), zin_at 1104 (by decide +kernel) (by decide +kernel), by decide, by decide +kernel⟩
theorem zch_L_decides : zIn (.initialized yL_decides.cls) ∧ zIn (.codeWith yL_decides cL_decides 6 (some .int) [(0, 12, 15, 18), (0, 12, 19, 13)]) ∧ (yL_decides.cls ≠ "java/lang/invoke/MethodHandle" ∧ yL_decides.cls ≠ "java/lang/invoke/VarHandle") ∧ (parseMethodDescriptor yL_decides.desc).map (fun d => d.parameters.length) = some 5 := ⟨zin_at 166 (by decide +kernel) (by decide +kernel), zin_at 1070 (by decide +kernel) (by decide +kernel), by decide, by decide +kernel⟩
theorem zch_L_format : zIn (.initialized yL_format.cls) ∧ zIn (.codeWith yL_format cL_format 4 (some .int) [(0, 9, 12, 18)]) ∧ (yL_format.cls ≠ "java/lang/invoke/MethodHandle" ∧ yL_format.cls ≠ "java/lang/invoke/VarHandle") ∧ (parseMethodDescriptor yL_format.desc).map (fun d => d.parameters.length) = some 3 := ⟨zin_at 166 (by decide +kernel) (by decide +kernel), zin_at 1181 (by decide +kernel) (by decide +kernel), by decide, by decide +kernel⟩
theorem zch_L_holder : zIn (.initialized yL_holder.cls) ∧ zIn (.codeWith yL_holder cL_holder 5 (some .int) [(0, 10, 13, 18), (0, 10, 17, 13)]) ∧ (yL_holder.cls ≠ "java/lang/invoke/MethodHandle" ∧ yL_holder.cls ≠ "java/lang/invoke/VarHandle") ∧ (parseMethodDescriptor yL_holder.desc).map (fun d => d.parameters.length) = some 4 := ⟨zin_at 166 (by decide +kernel) (by decide +kernel), zin_at 1023 (by decide +kernel) (by decide +kernel), by decide, by decide +kernel⟩
theorem zch_L_host : zIn (.initialized yL_host.cls) ∧ zIn (.codeWith yL_host cL_host 5 (some .int) [(0, 10, 13, 18)]) ∧ (yL_host.cls ≠ "java/lang/invoke/MethodHandle" ∧ yL_host.cls ≠ "java/lang/invoke/VarHandle") ∧ (parseMethodDescriptor yL_host.desc).map (fun d => d.parameters.length) = some 4 := ⟨zin_at 166 (by decide +kernel) (by decide +kernel), zin_at 1001 (by decide +kernel) (by decide +kernel), by decide, by decide +kernel⟩
theorem zch_L_load : zIn (.initialized yL_load.cls) ∧ zIn (.codeWith yL_load cL_load 4 (some .int) [(0, 9, 12, 13)]) ∧ (yL_load.cls ≠ "java/lang/invoke/MethodHandle" ∧ yL_load.cls ≠ "java/lang/invoke/VarHandle") ∧ (parseMethodDescriptor yL_load.desc).map (fun d => d.parameters.length) = some 3 := ⟨zin_at 166 (by decide +kernel) (by decide +kernel), zin_at 733 (by decide +kernel) (by decide +kernel), by decide, by decide +kernel⟩
theorem zch_L_name : zIn (.initialized yL_name.cls) ∧ zIn (.codeWith yL_name cL_name 5 (some .int) [(0, 10, 13, 18)]) ∧ (yL_name.cls ≠ "java/lang/invoke/MethodHandle" ∧ yL_name.cls ≠ "java/lang/invoke/VarHandle") ∧ (parseMethodDescriptor yL_name.desc).map (fun d => d.parameters.length) = some 4 := ⟨zin_at 166 (by decide +kernel) (by decide +kernel), zin_at 1013 (by decide +kernel) (by decide +kernel), by decide, by decide +kernel⟩
theorem zch_L_plan : zIn (.initialized yL_plan.cls) ∧ zIn (.codeWith yL_plan cL_plan 6 (some .int) [(0, 12, 15, 18), (0, 12, 19, 13)]) ∧ (yL_plan.cls ≠ "java/lang/invoke/MethodHandle" ∧ yL_plan.cls ≠ "java/lang/invoke/VarHandle") ∧ (parseMethodDescriptor yL_plan.desc).map (fun d => d.parameters.length) = some 5 := ⟨zin_at 166 (by decide +kernel) (by decide +kernel), zin_at 1131 (by decide +kernel) (by decide +kernel), by decide, by decide +kernel⟩
theorem zch_L_plans : zIn (.initialized yL_plans.cls) ∧ zIn (.codeWith yL_plans cL_plans 4 (some .int) [(0, 9, 12, 13)]) ∧ (yL_plans.cls ≠ "java/lang/invoke/MethodHandle" ∧ yL_plans.cls ≠ "java/lang/invoke/VarHandle") ∧ (parseMethodDescriptor yL_plans.desc).map (fun d => d.parameters.length) = some 3 := ⟨zin_at 166 (by decide +kernel) (by decide +kernel), zin_at 1048 (by decide +kernel) (by decide +kernel), by decide, by decide +kernel⟩
theorem zch_L_query : zIn (.initialized yL_query.cls) ∧ zIn (.codeWith yL_query cL_query 4 (some .int) [(0, 9, 12, 13)]) ∧ (yL_query.cls ≠ "java/lang/invoke/MethodHandle" ∧ yL_query.cls ≠ "java/lang/invoke/VarHandle") ∧ (parseMethodDescriptor yL_query.desc).map (fun d => d.parameters.length) = some 3 := ⟨zin_at 166 (by decide +kernel) (by decide +kernel), zin_at 1206 (by decide +kernel) (by decide +kernel), by decide, by decide +kernel⟩
theorem zch_L_reach : zIn (.initialized yL_reach.cls) ∧ zIn (.codeWith yL_reach cL_reach 4 (some .int) [(0, 9, 12, 18)]) ∧ (yL_reach.cls ≠ "java/lang/invoke/MethodHandle" ∧ yL_reach.cls ≠ "java/lang/invoke/VarHandle") ∧ (parseMethodDescriptor yL_reach.desc).map (fun d => d.parameters.length) = some 3 := ⟨zin_at 166 (by decide +kernel) (by decide +kernel), zin_at 1097 (by decide +kernel) (by decide +kernel), by decide, by decide +kernel⟩
theorem zch_L_removeHost : zIn (.initialized yL_removeHost.cls) ∧ zIn (.codeWith yL_removeHost cL_removeHost 4 (some .int) [(0, 9, 12, 18)]) ∧ (yL_removeHost.cls ≠ "java/lang/invoke/MethodHandle" ∧ yL_removeHost.cls ≠ "java/lang/invoke/VarHandle") ∧ (parseMethodDescriptor yL_removeHost.desc).map (fun d => d.parameters.length) = some 3 := ⟨zin_at 166 (by decide +kernel) (by decide +kernel), zin_at 1120 (by decide +kernel) (by decide +kernel), by decide, by decide +kernel⟩
theorem zch_L_removeRule : zIn (.initialized yL_removeRule.cls) ∧ zIn (.codeWith yL_removeRule cL_removeRule 4 (some .int) [(0, 9, 12, 18)]) ∧ (yL_removeRule.cls ≠ "java/lang/invoke/MethodHandle" ∧ yL_removeRule.cls ≠ "java/lang/invoke/VarHandle") ∧ (parseMethodDescriptor yL_removeRule.desc).map (fun d => d.parameters.length) = some 3 := ⟨zin_at 166 (by decide +kernel) (by decide +kernel), zin_at 1156 (by decide +kernel) (by decide +kernel), by decide, by decide +kernel⟩
theorem zch_L_rule : zIn (.initialized yL_rule.cls) ∧ zIn (.codeWith yL_rule cL_rule 5 (some .int) [(0, 10, 13, 18)]) ∧ (yL_rule.cls ≠ "java/lang/invoke/MethodHandle" ∧ yL_rule.cls ≠ "java/lang/invoke/VarHandle") ∧ (parseMethodDescriptor yL_rule.desc).map (fun d => d.parameters.length) = some 4 := ⟨zin_at 166 (by decide +kernel) (by decide +kernel), zin_at 1059 (by decide +kernel) (by decide +kernel), by decide, by decide +kernel⟩
theorem zch_L_setKeep : zIn (.initialized yL_setKeep.cls) ∧ zIn (.codeWith yL_setKeep cL_setKeep 4 (some .int) [(0, 9, 12, 13)]) ∧ (yL_setKeep.cls ≠ "java/lang/invoke/MethodHandle" ∧ yL_setKeep.cls ≠ "java/lang/invoke/VarHandle") ∧ (parseMethodDescriptor yL_setKeep.desc).map (fun d => d.parameters.length) = some 3 := ⟨zin_at 166 (by decide +kernel) (by decide +kernel), zin_at 1167 (by decide +kernel) (by decide +kernel), by decide, by decide +kernel⟩
theorem zch_L_setPinned : zIn (.initialized yL_setPinned.cls) ∧ zIn (.codeWith yL_setPinned cL_setPinned 5 (some .int) [(0, 10, 13, 18)]) ∧ (yL_setPinned.cls ≠ "java/lang/invoke/MethodHandle" ∧ yL_setPinned.cls ≠ "java/lang/invoke/VarHandle") ∧ (parseMethodDescriptor yL_setPinned.desc).map (fun d => d.parameters.length) = some 4 := ⟨zin_at 166 (by decide +kernel) (by decide +kernel), zin_at 1174 (by decide +kernel) (by decide +kernel), by decide, by decide +kernel⟩
theorem zch_L_size : zIn (.initialized yL_size.cls) ∧ zIn (.codeWith yL_size cL_size 4 (some .int) [(0, 9, 12, 18)]) ∧ (yL_size.cls ≠ "java/lang/invoke/MethodHandle" ∧ yL_size.cls ≠ "java/lang/invoke/VarHandle") ∧ (parseMethodDescriptor yL_size.desc).map (fun d => d.parameters.length) = some 3 := ⟨zin_at 166 (by decide +kernel) (by decide +kernel), zin_at 970 (by decide +kernel) (by decide +kernel), by decide, by decide +kernel⟩
theorem zch_L_unplan : zIn (.initialized yL_unplan.cls) ∧ zIn (.codeWith yL_unplan cL_unplan 4 (some .int) [(0, 9, 12, 18)]) ∧ (yL_unplan.cls ≠ "java/lang/invoke/MethodHandle" ∧ yL_unplan.cls ≠ "java/lang/invoke/VarHandle") ∧ (parseMethodDescriptor yL_unplan.desc).map (fun d => d.parameters.length) = some 3 := ⟨zin_at 166 (by decide +kernel) (by decide +kernel), zin_at 1138 (by decide +kernel) (by decide +kernel), by decide, by decide +kernel⟩
theorem zc_X7_back : zCl yX7_back cX7_back 1 (some .int) 0 := ⟨zin_at 167 (by decide +kernel) (by decide +kernel), zin_at 674 (by decide +kernel) (by decide +kernel), by decide, by decide +kernel⟩
theorem zc_X7_close : zCl yX7_close cX7_close 1 (some .int) 0 := ⟨zin_at 167 (by decide +kernel) (by decide +kernel), zin_at 694 (by decide +kernel) (by decide +kernel), by decide, by decide +kernel⟩
theorem zc_X7_conflict : zCl yX7_conflict cX7_conflict 2 (some .int) 0 := ⟨zin_at 167 (by decide +kernel) (by decide +kernel), zin_at 582 (by decide +kernel) (by decide +kernel), by decide, by decide +kernel⟩
theorem zc_X7_errorPosition : zCl yX7_errorPosition cX7_errorPosition 1 (some .int) 0 := ⟨zin_at 167 (by decide +kernel) (by decide +kernel), zin_at 491 (by decide +kernel) (by decide +kernel), by decide, by decide +kernel⟩
theorem zc_X7_feed : zCl yX7_feed cX7_feed 6 (some .int) 5 := ⟨zin_at 167 (by decide +kernel) (by decide +kernel), zin_at 483 (by decide +kernel) (by decide +kernel), by decide, by decide +kernel⟩
theorem zc_X7_formattedByte : zCl yX7_formattedByte cX7_formattedByte 2 (some .int) 1 := ⟨zin_at 167 (by decide +kernel) (by decide +kernel), zin_at 702 (by decide +kernel) (by decide +kernel), by decide, by decide +kernel⟩
theorem zc_X7_freeNumber : zCl yX7_freeNumber cX7_freeNumber 2 (some .int) 0 := ⟨zin_at 167 (by decide +kernel) (by decide +kernel), zin_at 495 (by decide +kernel) (by decide +kernel), by decide, by decide +kernel⟩
theorem zc_X7_meanReach : zCl yX7_meanReach cX7_meanReach 3 (some .double) 0 := ⟨zin_at 167 (by decide +kernel) (by decide +kernel), zin_at 614 (by decide +kernel) (by decide +kernel), by decide, by decide +kernel⟩
theorem zc_X7_movedShare : zCl yX7_movedShare cX7_movedShare 1 (some .float) 0 := ⟨zin_at 167 (by decide +kernel) (by decide +kernel), zin_at 606 (by decide +kernel) (by decide +kernel), by decide, by decide +kernel⟩
theorem zc_X7_open : zCl yX7_open cX7_open 1 (some .int) 0 := ⟨zin_at 167 (by decide +kernel) (by decide +kernel), zin_at 690 (by decide +kernel) (by decide +kernel), by decide, by decide +kernel⟩
theorem zc_X7_openIn : zCl yX7_openIn cX7_openIn 2 (some .int) 0 := ⟨zin_at 167 (by decide +kernel) (by decide +kernel), zin_at 594 (by decide +kernel) (by decide +kernel), by decide, by decide +kernel⟩
theorem zc_X7_restoreSnapshot : zCl yX7_restoreSnapshot cX7_restoreSnapshot 1 (some .boolean) 0 := ⟨zin_at 167 (by decide +kernel) (by decide +kernel), zin_at 726 (by decide +kernel) (by decide +kernel), by decide, by decide +kernel⟩
theorem zc_X7_rewrites : zCl yX7_rewrites cX7_rewrites 1 (some .int) 0 := ⟨zin_at 167 (by decide +kernel) (by decide +kernel), zin_at 586 (by decide +kernel) (by decide +kernel), by decide, by decide +kernel⟩
theorem zc_X7_saveSnapshot : zCl yX7_saveSnapshot cX7_saveSnapshot 1 none 0 := ⟨zin_at 167 (by decide +kernel) (by decide +kernel), zin_at 722 (by decide +kernel) (by decide +kernel), by decide, by decide +kernel⟩
theorem zc_X7_settle : zCl yX7_settle cX7_settle 6 (some .int) 0 := ⟨zin_at 167 (by decide +kernel) (by decide +kernel), zin_at 634 (by decide +kernel) (by decide +kernel), by decide, by decide +kernel⟩
theorem zc_X7_undo : zCl yX7_undo cX7_undo 1 (some .int) 0 := ⟨zin_at 167 (by decide +kernel) (by decide +kernel), zin_at 714 (by decide +kernel) (by decide +kernel), by decide, by decide +kernel⟩
theorem zc_X7_undoCount : zCl yX7_undoCount cX7_undoCount 1 (some .int) 0 := ⟨zin_at 167 (by decide +kernel) (by decide +kernel), zin_at 710 (by decide +kernel) (by decide +kernel), by decide, by decide +kernel⟩
theorem zc_X7_wave : zCl yX7_wave cX7_wave 2 (some .int) 0 := ⟨zin_at 167 (by decide +kernel) (by decide +kernel), zin_at 666 (by decide +kernel) (by decide +kernel), by decide, by decide +kernel⟩
theorem zc_X7_whyNot : zCl yX7_whyNot cX7_whyNot 1 (some .int) 0 := ⟨zin_at 167 (by decide +kernel) (by decide +kernel), zin_at 528 (by decide +kernel) (by decide +kernel), by decide, by decide +kernel⟩
theorem zc_X8_addHost : zCl yX8_addHost cX8_addHost 5 (some .int) 2 := ⟨zin_at 175 (by decide +kernel) (by decide +kernel), zin_at 1745 (by decide +kernel) (by decide +kernel), by decide, by decide +kernel⟩
theorem zc_X8_addRule : zCl yX8_addRule cX8_addRule 6 (some .int) 4 := ⟨zin_at 175 (by decide +kernel) (by decide +kernel), zin_at 1805 (by decide +kernel) (by decide +kernel), by decide, by decide +kernel⟩
theorem zc_X8_allows : zCl yX8_allows cX8_allows 4 (some .boolean) 3 := ⟨zin_at 175 (by decide +kernel) (by decide +kernel), zin_at 1645 (by decide +kernel) (by decide +kernel), by decide, by decide +kernel⟩
theorem zc_X8_back : zCl yX8_back cX8_back 1 (some .int) 0 := ⟨zin_at 175 (by decide +kernel) (by decide +kernel), zin_at 1789 (by decide +kernel) (by decide +kernel), by decide, by decide +kernel⟩
theorem zc_X8_clash : zCl yX8_clash cX8_clash 4 (some .int) 1 := ⟨zin_at 175 (by decide +kernel) (by decide +kernel), zin_at 1609 (by decide +kernel) (by decide +kernel), by decide, by decide +kernel⟩
theorem zc_X8_clashesIn : zCl yX8_clashesIn cX8_clashesIn 4 (some .int) 1 := ⟨zin_at 175 (by decide +kernel) (by decide +kernel), zin_at 1729 (by decide +kernel) (by decide +kernel), by decide, by decide +kernel⟩
theorem zc_X8_close : zCl yX8_close cX8_close 3 (some .int) 0 := ⟨zin_at 175 (by decide +kernel) (by decide +kernel), zin_at 1801 (by decide +kernel) (by decide +kernel), by decide, by decide +kernel⟩
theorem zc_X8_conflict : zCl yX8_conflict cX8_conflict 2 (some .int) 0 := ⟨zin_at 175 (by decide +kernel) (by decide +kernel), zin_at 1721 (by decide +kernel) (by decide +kernel), by decide, by decide +kernel⟩
theorem zc_X8_decides : zCl yX8_decides cX8_decides 4 (some .int) 3 := ⟨zin_at 175 (by decide +kernel) (by decide +kernel), zin_at 1629 (by decide +kernel) (by decide +kernel), by decide, by decide +kernel⟩
theorem zc_X8_errorPosition : zCl yX8_errorPosition cX8_errorPosition 1 (some .int) 0 := ⟨zin_at 175 (by decide +kernel) (by decide +kernel), zin_at 1410 (by decide +kernel) (by decide +kernel), by decide, by decide +kernel⟩
theorem zc_X8_feed : zCl yX8_feed cX8_feed 6 (some .int) 5 := ⟨zin_at 175 (by decide +kernel) (by decide +kernel), zin_at 1402 (by decide +kernel) (by decide +kernel), by decide, by decide +kernel⟩
theorem zc_X8_format : zCl yX8_format cX8_format 3 (some .int) 1 := ⟨zin_at 175 (by decide +kernel) (by decide +kernel), zin_at 1840 (by decide +kernel) (by decide +kernel), by decide, by decide +kernel⟩
theorem zc_X8_formattedByte : zCl yX8_formattedByte cX8_formattedByte 2 (some .int) 1 := ⟨zin_at 175 (by decide +kernel) (by decide +kernel), zin_at 1852 (by decide +kernel) (by decide +kernel), by decide, by decide +kernel⟩
theorem zc_X8_freeNumber : zCl yX8_freeNumber cX8_freeNumber 1 (some .int) 0 := ⟨zin_at 175 (by decide +kernel) (by decide +kernel), zin_at 1665 (by decide +kernel) (by decide +kernel), by decide, by decide +kernel⟩
theorem zc_X8_holder : zCl yX8_holder cX8_holder 3 (some .int) 2 := ⟨zin_at 175 (by decide +kernel) (by decide +kernel), zin_at 1599 (by decide +kernel) (by decide +kernel), by decide, by decide +kernel⟩
theorem zc_X8_host : zCl yX8_host cX8_host 3 (some .int) 2 := ⟨zin_at 175 (by decide +kernel) (by decide +kernel), zin_at 1586 (by decide +kernel) (by decide +kernel), by decide, by decide +kernel⟩
theorem zc_X8_load : zCl yX8_load cX8_load 2 (some .int) 1 := ⟨zin_at 175 (by decide +kernel) (by decide +kernel), zin_at 1414 (by decide +kernel) (by decide +kernel), by decide, by decide +kernel⟩
theorem zc_X8_meanReach : zCl yX8_meanReach cX8_meanReach 3 (some .double) 0 := ⟨zin_at 175 (by decide +kernel) (by decide +kernel), zin_at 1741 (by decide +kernel) (by decide +kernel), by decide, by decide +kernel⟩
theorem zc_X8_movedShare : zCl yX8_movedShare cX8_movedShare 3 (some .float) 0 := ⟨zin_at 175 (by decide +kernel) (by decide +kernel), zin_at 1737 (by decide +kernel) (by decide +kernel), by decide, by decide +kernel⟩
theorem zc_X8_name : zCl yX8_name cX8_name 3 (some .int) 2 := ⟨zin_at 175 (by decide +kernel) (by decide +kernel), zin_at 1595 (by decide +kernel) (by decide +kernel), by decide, by decide +kernel⟩
theorem zc_X8_open : zCl yX8_open cX8_open 1 (some .int) 0 := ⟨zin_at 175 (by decide +kernel) (by decide +kernel), zin_at 1797 (by decide +kernel) (by decide +kernel), by decide, by decide +kernel⟩
theorem zc_X8_openIn : zCl yX8_openIn cX8_openIn 3 (some .int) 0 := ⟨zin_at 175 (by decide +kernel) (by decide +kernel), zin_at 1733 (by decide +kernel) (by decide +kernel), by decide, by decide +kernel⟩
theorem zc_X8_plan : zCl yX8_plan cX8_plan 4 (some .int) 3 := ⟨zin_at 175 (by decide +kernel) (by decide +kernel), zin_at 1761 (by decide +kernel) (by decide +kernel), by decide, by decide +kernel⟩
theorem zc_X8_plans : zCl yX8_plans cX8_plans 2 (some .int) 1 := ⟨zin_at 175 (by decide +kernel) (by decide +kernel), zin_at 1613 (by decide +kernel) (by decide +kernel), by decide, by decide +kernel⟩
theorem zc_X8_query : zCl yX8_query cX8_query 5 (some .int) 1 := ⟨zin_at 175 (by decide +kernel) (by decide +kernel), zin_at 1856 (by decide +kernel) (by decide +kernel), by decide, by decide +kernel⟩
theorem zc_X8_reach : zCl yX8_reach cX8_reach 2 (some .int) 1 := ⟨zin_at 175 (by decide +kernel) (by decide +kernel), zin_at 1653 (by decide +kernel) (by decide +kernel), by decide, by decide +kernel⟩
theorem zc_X8_removeHost : zCl yX8_removeHost cX8_removeHost 3 (some .int) 1 := ⟨zin_at 175 (by decide +kernel) (by decide +kernel), zin_at 1757 (by decide +kernel) (by decide +kernel), by decide, by decide +kernel⟩
theorem zc_X8_removeRule : zCl yX8_removeRule cX8_removeRule 3 (some .int) 1 := ⟨zin_at 175 (by decide +kernel) (by decide +kernel), zin_at 1812 (by decide +kernel) (by decide +kernel), by decide, by decide +kernel⟩
theorem zc_X8_restoreSnapshot : zCl yX8_restoreSnapshot cX8_restoreSnapshot 1 (some .boolean) 0 := ⟨zin_at 175 (by decide +kernel) (by decide +kernel), zin_at 1836 (by decide +kernel) (by decide +kernel), by decide, by decide +kernel⟩
theorem zc_X8_rewrites : zCl yX8_rewrites cX8_rewrites 2 (some .int) 0 := ⟨zin_at 175 (by decide +kernel) (by decide +kernel), zin_at 1725 (by decide +kernel) (by decide +kernel), by decide, by decide +kernel⟩
theorem zc_X8_rule : zCl yX8_rule cX8_rule 3 (some .int) 2 := ⟨zin_at 175 (by decide +kernel) (by decide +kernel), zin_at 1620 (by decide +kernel) (by decide +kernel), by decide, by decide +kernel⟩
theorem zc_X8_saveSnapshot : zCl yX8_saveSnapshot cX8_saveSnapshot 1 none 0 := ⟨zin_at 175 (by decide +kernel) (by decide +kernel), zin_at 1832 (by decide +kernel) (by decide +kernel), by decide, by decide +kernel⟩
theorem zc_X8_setKeep : zCl yX8_setKeep cX8_setKeep 3 (some .int) 1 := ⟨zin_at 175 (by decide +kernel) (by decide +kernel), zin_at 1816 (by decide +kernel) (by decide +kernel), by decide, by decide +kernel⟩
theorem zc_X8_setPinned : zCl yX8_setPinned cX8_setPinned 4 (some .int) 2 := ⟨zin_at 175 (by decide +kernel) (by decide +kernel), zin_at 1820 (by decide +kernel) (by decide +kernel), by decide, by decide +kernel⟩
theorem zc_X8_settle : zCl yX8_settle cX8_settle 6 (some .int) 0 := ⟨zin_at 175 (by decide +kernel) (by decide +kernel), zin_at 1773 (by decide +kernel) (by decide +kernel), by decide, by decide +kernel⟩
theorem zc_X8_size : zCl yX8_size cX8_size 2 (some .int) 1 := ⟨zin_at 175 (by decide +kernel) (by decide +kernel), zin_at 1541 (by decide +kernel) (by decide +kernel), by decide, by decide +kernel⟩
theorem zc_X8_thrown : zCl yX8_thrown cX8_thrown 1 (some .int) 0 := ⟨zin_at 175 (by decide +kernel) (by decide +kernel), zin_at 1297 (by decide +kernel) (by decide +kernel), by decide, by decide +kernel⟩
theorem zc_X8_undo : zCl yX8_undo cX8_undo 1 (some .int) 0 := ⟨zin_at 175 (by decide +kernel) (by decide +kernel), zin_at 1828 (by decide +kernel) (by decide +kernel), by decide, by decide +kernel⟩
theorem zc_X8_undoCount : zCl yX8_undoCount cX8_undoCount 1 (some .int) 0 := ⟨zin_at 175 (by decide +kernel) (by decide +kernel), zin_at 1824 (by decide +kernel) (by decide +kernel), by decide, by decide +kernel⟩
theorem zc_X8_unplan : zCl yX8_unplan cX8_unplan 3 (some .int) 1 := ⟨zin_at 175 (by decide +kernel) (by decide +kernel), zin_at 1765 (by decide +kernel) (by decide +kernel), by decide, by decide +kernel⟩
theorem zc_X8_wave : zCl yX8_wave cX8_wave 2 (some .int) 0 := ⟨zin_at 175 (by decide +kernel) (by decide +kernel), zin_at 1785 (by decide +kernel) (by decide +kernel), by decide, by decide +kernel⟩
theorem zc_X8_whyNot : zCl yX8_whyNot cX8_whyNot 2 (some .int) 0 := ⟨zin_at 175 (by decide +kernel) (by decide +kernel), zin_at 1677 (by decide +kernel) (by decide +kernel), by decide, by decide +kernel⟩
def zScr (a : ZC) (b : Nat) (L : Int) (sc : Int → Int) : Prop := match a with
  | ((p, l, e, s, m, args, below, meth, c), E, N) => ∃ (xs : Nat → Int32) (L0 : Nat), L = L0 ∧ va_X b L0 xs s s.heap ∧ b < s.heap.size ∧ b < E.2.2.2 ∧ ∀ i, 0 ≤ i → i < L → sc i = (xs i.toNat).toInt
section ZSC
variable {l0 : Launch} {a : ZC} {M : ZM} {cc : ByteArray} {own : String} {mL : Nat} {ret : Option FieldType} {mn : Nat} {tb : List (Nat × Nat × Nat × Nat)} {k n pc : Nat} {ls : List (Option AV)} {st : List AV} {h : Hp}
theorem zV_sld (O : zOk l0 a cc own mL ret mn tb) {b : Nat} {L : Int} {sc : Int → Int} {i : Int} (hS : zScr a b L sc) (hin : 0 ≤ i ∧ i < L) (hd : decode cc pc = .ok (.iaload, 1)) (kk : zV a M k n (pc + 1) ls (aI (sc i) :: st) h) : zV a M k n pc ls (aI i :: aA (b + 1) :: st) h := by
  obtain ⟨⟨p, l, e, s, m, args, below, meth, c⟩, E, N⟩ := a
  obtain ⟨hx, hb, hml, hr, ho, hlk, hK, hAD, hN, hex, hl0⟩ := O
  obtain ⟨xs, L0, rfl, hX, hbl, hbE, hsc⟩ := hS
  intro cs cl hh H locs la hP hS hL
  have ci : zr i := cs (aI i) (by simp)
  have e1 := hsc i hin.1 hin.2
  have hz : zr (sc i) := by rw [e1]; exact zr_I _
  refine va_sld hx hb hX hbl (by show ¬ E.2.2.2 ≤ b; omega) hS (zI_in ci hin) hd ?_
  rw [zI_cl ci hin.1]
  have k2 := kk (fun v hv => (List.mem_cons.mp hv).elim (fun e => e ▸ hz) (fun hv => cs v (List.mem_cons_of_mem _ (List.mem_cons_of_mem _ hv)))) cl hh H locs la hP hS hL
  rw [List.map_cons, show cv E (aI (sc i)) = .int (Int32.ofInt (sc i)) from rfl, e1, show Int32.ofInt ((xs i.toNat).toInt) = xs i.toNat from Int32.ofInt_toInt _] at k2
  exact k2
theorem zV_slen' (O : zOk l0 a cc own mL ret mn tb) {b : Nat} {L : Int} {sc : Int → Int} (hS : zScr a b L sc) (hz : zr L) (hd : decode cc pc = .ok (.arraylength, 1)) (kk : zV a M k n (pc + 1) ls (aI L :: st) h) : zV a M k n pc ls (aA (b + 1) :: st) h := by
  obtain ⟨⟨p, l, e, s, m, args, below, meth, c⟩, E, N⟩ := a
  obtain ⟨hx, hb, hml, hr, ho, hlk, hK, hAD, hN, hex, hl0⟩ := O
  obtain ⟨xs, L0, rfl, hX, hbl, hbE, hsc⟩ := hS
  intro cs cl hh H locs la hP hS hL
  refine va_slen hx hb hX hbl (by show ¬ E.2.2.2 ≤ b; omega) hS hd ?_
  have k2 := kk (fun v hv => (List.mem_cons.mp hv).elim (fun e => e ▸ hz) (fun hv => cs v (List.mem_cons_of_mem _ hv))) cl hh H locs la hP hS hL
  exact k2
end ZSC
def mW_0 (sc : Int → Int) (L : Int) (Q : Int → Hp → Prop) (K : Int → Hp → Prop) (v4 : Int) (h : Hp) : Prop := (zr (v4 + 1) ∧ (((0 : Int) ≤ (v4 + 1) ∧ (v4 + 1) < L) ∧ (zr (v4 + 2) ∧ (((0 : Int) ≤ (v4 + 2) ∧ (v4 + 2) < L) ∧ (zr (v4 + 3) ∧ (((0 : Int) ≤ (v4 + 3) ∧ (v4 + 3) < L) ∧ (zr (v4 + 4) ∧ (((0 : Int) ≤ (v4 + 4) ∧ (v4 + 4) < L) ∧ (zr (v4 + 5) ∧ (((0 : Int) ≤ (v4 + 5) ∧ (v4 + 5) < L) ∧ (mX7_feed (sc (v4 + 1)) (sc (v4 + 2)) (sc (v4 + 3)) (sc (v4 + 4)) (sc (v4 + 5)) h (fun z1 h2 => (zr (v4 + 1) ∧ (((0 : Int) ≤ (v4 + 1) ∧ (v4 + 1) < L) ∧ (zr (v4 + 2) ∧ (((0 : Int) ≤ (v4 + 2) ∧ (v4 + 2) < L) ∧ (zr (v4 + 3) ∧ (((0 : Int) ≤ (v4 + 3) ∧ (v4 + 3) < L) ∧ (zr (v4 + 4) ∧ (((0 : Int) ≤ (v4 + 4) ∧ (v4 + 4) < L) ∧ (zr (v4 + 5) ∧ (((0 : Int) ≤ (v4 + 5) ∧ (v4 + 5) < L) ∧ (mX8_feed (sc (v4 + 1)) (sc (v4 + 2)) (sc (v4 + 3)) (sc (v4 + 4)) (sc (v4 + 5)) h2 (fun z3 h4 => ((z1 = z3 → (K v4 h4)) ∧ (¬ z1 = z3 → (Q 0 h4)))))))))))))))))))))))))))
set_option maxHeartbeats 4000000 in
set_option maxRecDepth 100000 in
theorem sW_0 {l0 : Launch} {a : ZC} {b : Nat} {L : Int} {sc : Int → Int} {Q : Int → Hp → Prop} {K : Int → Hp → Prop} {k n : Nat} {v4 : Int} {h : Hp} (O : zOk l0 a cL_law RL 9 (some .boolean) 198 []) (hS : zScr a b L sc) (hk : k ≤ 600000) (hn : n ≤ 7200000) (hK : ∀ (k2 n2 : Nat) (v4 : Int) (h : Hp), k2 ≤ k + 1 → n2 ≤ n + 6 → K v4 h → zV a (2048, 601024, 7293034, (qZ Q), xN) k2 n2 2046 [some (aA (b + 1)), some (aR 169), some (aR 185), some (aR 197), some (aI v4), none, none, none, none] [] h) (hM : mW_0 sc L Q K v4 h) : zV a (2048, 601024, 7293034, (qZ Q), xN) k n 220 [some (aA (b + 1)), some (aR 169), some (aR 185), some (aR 197), some (aI v4), none, none, none, none] [] h := by
  unfold mW_0 at hM
  refine zV_aload_n O dL_law_220 rfl rfl ?_
  refine zV_aload_n O dL_law_221 rfl rfl ?_
  refine zV_iload O dL_law_222 rfl ?_
  refine zV_iconst (z := 1) O ⟨by omega, by omega⟩ dL_law_224 ?_
  obtain ⟨hc, hM⟩ := hM
  refine zV_iadd O dL_law_225 hc ?_
  obtain ⟨hc, hM⟩ := hM
  refine zV_sld O hS hc dL_law_226 ?_
  refine zV_aload_n O dL_law_227 rfl rfl ?_
  refine zV_iload O dL_law_228 rfl ?_
  refine zV_iconst (z := 2) O ⟨by omega, by omega⟩ dL_law_230 ?_
  obtain ⟨hc, hM⟩ := hM
  refine zV_iadd O dL_law_231 hc ?_
  obtain ⟨hc, hM⟩ := hM
  refine zV_sld O hS hc dL_law_232 ?_
  refine zV_aload_n O dL_law_233 rfl rfl ?_
  refine zV_iload O dL_law_234 rfl ?_
  refine zV_iconst (z := 3) O ⟨by omega, by omega⟩ dL_law_236 ?_
  obtain ⟨hc, hM⟩ := hM
  refine zV_iadd O dL_law_237 hc ?_
  obtain ⟨hc, hM⟩ := hM
  refine zV_sld O hS hc dL_law_238 ?_
  refine zV_aload_n O dL_law_239 rfl rfl ?_
  refine zV_iload O dL_law_240 rfl ?_
  refine zV_iconst (z := 4) O ⟨by omega, by omega⟩ dL_law_242 ?_
  obtain ⟨hc, hM⟩ := hM
  refine zV_iadd O dL_law_243 hc ?_
  obtain ⟨hc, hM⟩ := hM
  refine zV_sld O hS hc dL_law_244 ?_
  refine zV_aload_n O dL_law_245 rfl rfl ?_
  refine zV_iload O dL_law_246 rfl ?_
  refine zV_iconst (z := 5) O ⟨by omega, by omega⟩ dL_law_248 ?_
  obtain ⟨hc, hM⟩ := hM
  refine zV_iadd O dL_law_249 hc ?_
  obtain ⟨hc, hM⟩ := hM
  refine zV_sld O hS hc dL_law_250 ?_
  refine zV_callV (as := [aI (sc (v4 + 1)), aI (sc (v4 + 2)), aI (sc (v4 + 3)), aI (sc (v4 + 4)), aI (sc (v4 + 5))]) (st := []) O zc_X7_feed (Or.inl zl_RL_89) zi_481 zi_482 zt_169 rfl rfl (by decide) (by first | exact Nat.le_of_ble_eq_true rfl | (show _ ≤ 601024; omega) | (show _ ≤ 7293034; omega)) rfl rfl (by first | exact Nat.le_of_ble_eq_true rfl | (show _ ≤ 601024; omega) | (show _ ≤ 7293034; omega)) (by first | exact Nat.le_of_ble_eq_true rfl | (show _ ≤ 601024; omega) | (show _ ≤ 7293034; omega)) (by first | exact Nat.le_of_ble_eq_true rfl | (show _ ≤ 601024; omega) | (show _ ≤ 7293034; omega)) (by first | exact Nat.le_of_ble_eq_true rfl | (show _ ≤ 601024; omega) | (show _ ≤ 7293034; omega)) (by first | exact Nat.le_of_ble_eq_true rfl | (show _ ≤ 601024; omega) | (show _ ≤ 7293034; omega)) (by first | exact Nat.le_of_ble_eq_true rfl | (show _ ≤ 601024; omega) | (show _ ≤ 7293034; omega)) dL_law_251 (sX7_feed hM) (fun r h2 hq => ?_) (fun x h9 hq => hq.elim)
  obtain ⟨z1, rfl, hM⟩ := hq
  refine zV_aload_n O dL_law_254 rfl rfl ?_
  refine zV_aload_n O dL_law_255 rfl rfl ?_
  refine zV_iload O dL_law_256 rfl ?_
  refine zV_iconst (z := 1) O ⟨by omega, by omega⟩ dL_law_258 ?_
  obtain ⟨hc, hM⟩ := hM
  refine zV_iadd O dL_law_259 hc ?_
  obtain ⟨hc, hM⟩ := hM
  refine zV_sld O hS hc dL_law_260 ?_
  refine zV_aload_n O dL_law_261 rfl rfl ?_
  refine zV_iload O dL_law_262 rfl ?_
  refine zV_iconst (z := 2) O ⟨by omega, by omega⟩ dL_law_264 ?_
  obtain ⟨hc, hM⟩ := hM
  refine zV_iadd O dL_law_265 hc ?_
  obtain ⟨hc, hM⟩ := hM
  refine zV_sld O hS hc dL_law_266 ?_
  refine zV_aload_n O dL_law_267 rfl rfl ?_
  refine zV_iload O dL_law_268 rfl ?_
  refine zV_iconst (z := 3) O ⟨by omega, by omega⟩ dL_law_270 ?_
  obtain ⟨hc, hM⟩ := hM
  refine zV_iadd O dL_law_271 hc ?_
  obtain ⟨hc, hM⟩ := hM
  refine zV_sld O hS hc dL_law_272 ?_
  refine zV_aload_n O dL_law_273 rfl rfl ?_
  refine zV_iload O dL_law_274 rfl ?_
  refine zV_iconst (z := 4) O ⟨by omega, by omega⟩ dL_law_276 ?_
  obtain ⟨hc, hM⟩ := hM
  refine zV_iadd O dL_law_277 hc ?_
  obtain ⟨hc, hM⟩ := hM
  refine zV_sld O hS hc dL_law_278 ?_
  refine zV_aload_n O dL_law_279 rfl rfl ?_
  refine zV_iload O dL_law_280 rfl ?_
  refine zV_iconst (z := 5) O ⟨by omega, by omega⟩ dL_law_282 ?_
  obtain ⟨hc, hM⟩ := hM
  refine zV_iadd O dL_law_283 hc ?_
  obtain ⟨hc, hM⟩ := hM
  refine zV_sld O hS hc dL_law_284 ?_
  refine zV_callV (as := [aI (sc (v4 + 1)), aI (sc (v4 + 2)), aI (sc (v4 + 3)), aI (sc (v4 + 4)), aI (sc (v4 + 5))]) (st := [aI z1]) O zc_X8_feed (Or.inl zl_RL_93) zi_1400 zi_1401 zt_185 rfl rfl (by decide) (by first | exact Nat.le_of_ble_eq_true rfl | (show _ ≤ 601024; omega) | (show _ ≤ 7293034; omega)) rfl rfl (by first | exact Nat.le_of_ble_eq_true rfl | (show _ ≤ 601024; omega) | (show _ ≤ 7293034; omega)) (by first | exact Nat.le_of_ble_eq_true rfl | (show _ ≤ 601024; omega) | (show _ ≤ 7293034; omega)) (by first | exact Nat.le_of_ble_eq_true rfl | (show _ ≤ 601024; omega) | (show _ ≤ 7293034; omega)) (by first | exact Nat.le_of_ble_eq_true rfl | (show _ ≤ 601024; omega) | (show _ ≤ 7293034; omega)) (by first | exact Nat.le_of_ble_eq_true rfl | (show _ ≤ 601024; omega) | (show _ ≤ 7293034; omega)) (by first | exact Nat.le_of_ble_eq_true rfl | (show _ ≤ 601024; omega) | (show _ ≤ 7293034; omega)) dL_law_285 (sX8_feed hM) (fun r h4 hq => ?_) (fun x h9 hq => hq.elim)
  obtain ⟨z3, rfl, hM⟩ := hq
  refine zV_icmp_eq (tgt := 2046) O dL_law_288 (by decide) (fun hc => ?_) (fun hc => ?_)
  · replace hM := hM.1 hc
    refine zV_sub (ls2 := [some (aA (b + 1)), some (aR 169), some (aR 185), some (aR 197), some (aI v4), none, none, none, none]) ⟨rfl, rfl, rfl, rfl, rfl, trivial⟩ ?_
    exact hK _ _ _ _ (by omega) (by omega) hM
  · replace hM := hM.2 hc
    refine zV_iconst (z := 0) O ⟨by omega, by omega⟩ dL_law_291 ?_
    exact zV_zret O rfl (Or.inl rfl) ⟨_, rfl, (Or.inl rfl), hM⟩ (by first | exact Nat.le_of_ble_eq_true rfl | (show _ ≤ 601024; omega) | (show _ ≤ 7293034; omega)) (by first | exact Nat.le_of_ble_eq_true rfl | (show _ ≤ 601024; omega) | (show _ ≤ 7293034; omega)) dL_law_292
def mW_1 (sc : Int → Int) (L : Int) (Q : Int → Hp → Prop) (K : Int → Hp → Prop) (v4 : Int) (h : Hp) : Prop := (zr (v4 + 1) ∧ (((0 : Int) ≤ (v4 + 1) ∧ (v4 + 1) < L) ∧ (mL_load (sc (v4 + 1)) h (fun z1 h2 => (zr (v4 + 1) ∧ (((0 : Int) ≤ (v4 + 1) ∧ (v4 + 1) < L) ∧ (mX8_load (sc (v4 + 1)) h2 (fun z3 h4 => (mX8_thrown h4 (fun z5 => ((z5 = z1 → ((¬ z1 = 0 → (K v4 h4)) ∧ (z1 = 0 → (((0 : Int) ≤ 0 ∧ (0 : Int) < 1) ∧ (((zlcmp (rd h4 197 0) z3) = 0 → (K v4 h4)) ∧ (¬ (zlcmp (rd h4 197 0) z3) = 0 → (Q 0 h4))))))) ∧ (¬ z5 = z1 → (Q 0 h4)))))))))))))
set_option maxHeartbeats 4000000 in
set_option maxRecDepth 100000 in
theorem sW_1 {l0 : Launch} {a : ZC} {b : Nat} {L : Int} {sc : Int → Int} {Q : Int → Hp → Prop} {K : Int → Hp → Prop} {k n : Nat} {v4 : Int} {h : Hp} (O : zOk l0 a cL_law RL 9 (some .boolean) 198 []) (hS : zScr a b L sc) (hk : k ≤ 600000) (hn : n ≤ 7200000) (hK : ∀ (k2 n2 : Nat) (v4 : Int) (h : Hp), k2 ≤ k + 1 → n2 ≤ n + 6 → K v4 h → zV a (2048, 601024, 7293034, (qZ Q), xN) k2 n2 2046 [some (aA (b + 1)), some (aR 169), some (aR 185), some (aR 197), some (aI v4), none, none, none, none] [] h) (hM : mW_1 sc L Q K v4 h) : zV a (2048, 601024, 7293034, (qZ Q), xN) k n 293 [some (aA (b + 1)), some (aR 169), some (aR 185), some (aR 197), some (aI v4), none, none, none, none] [] h := by
  unfold mW_1 at hM
  refine zV_aload_n O dL_law_293 rfl rfl ?_
  refine zV_aload_n O dL_law_294 rfl rfl ?_
  refine zV_iload O dL_law_295 rfl ?_
  refine zV_iconst (z := 1) O ⟨by omega, by omega⟩ dL_law_297 ?_
  obtain ⟨hc, hM⟩ := hM
  refine zV_iadd O dL_law_298 hc ?_
  obtain ⟨hc, hM⟩ := hM
  refine zV_sld O hS hc dL_law_299 ?_
  refine zV_aload_n O dL_law_300 rfl rfl ?_
  refine zV_callSH (as := [aR 169, aI (sc (v4 + 1)), aR 197]) (st := []) O zch_L_load.1 zch_L_load.2.1 zch_L_load.2.2.1 zch_L_load.2.2.2 zl_RL_94 zi_732 (by first | exact Nat.le_of_ble_eq_true rfl | (show _ ≤ 601024; omega) | (show _ ≤ 7293034; omega)) rfl rfl (by first | exact Nat.le_of_ble_eq_true rfl | (show _ ≤ 601024; omega) | (show _ ≤ 7293034; omega)) (by first | exact Nat.le_of_ble_eq_true rfl | (show _ ≤ 601024; omega) | (show _ ≤ 7293034; omega)) (by first | exact Nat.le_of_ble_eq_true rfl | (show _ ≤ 601024; omega) | (show _ ≤ 7293034; omega)) (by first | exact Nat.le_of_ble_eq_true rfl | (show _ ≤ 601024; omega) | (show _ ≤ 7293034; omega)) (by first | exact Nat.le_of_ble_eq_true rfl | (show _ ≤ 601024; omega) | (show _ ≤ 7293034; omega)) (by first | exact Nat.le_of_ble_eq_true rfl | (show _ ≤ 601024; omega) | (show _ ≤ 7293034; omega)) dL_law_301 (sL_load hM) (fun r h2 hq => ?_) (fun x h9 hq => hq.elim)
  obtain ⟨z1, rfl, hM⟩ := hq
  refine zV_istore O dL_law_304 (by first | exact Nat.le_of_ble_eq_true rfl | (show _ ≤ 601024; omega) | (show _ ≤ 7293034; omega)) rfl ?_
  refine zV_aload_n O dL_law_306 rfl rfl ?_
  refine zV_aload_n O dL_law_307 rfl rfl ?_
  refine zV_iload O dL_law_308 rfl ?_
  refine zV_iconst (z := 1) O ⟨by omega, by omega⟩ dL_law_310 ?_
  obtain ⟨hc, hM⟩ := hM
  refine zV_iadd O dL_law_311 hc ?_
  obtain ⟨hc, hM⟩ := hM
  refine zV_sld O hS hc dL_law_312 ?_
  refine zV_callV (as := [aI (sc (v4 + 1))]) (st := []) O zc_X8_load (Or.inl zl_RL_99) zi_1412 zi_1413 zt_185 rfl rfl (by decide) (by first | exact Nat.le_of_ble_eq_true rfl | (show _ ≤ 601024; omega) | (show _ ≤ 7293034; omega)) rfl rfl (by first | exact Nat.le_of_ble_eq_true rfl | (show _ ≤ 601024; omega) | (show _ ≤ 7293034; omega)) (by first | exact Nat.le_of_ble_eq_true rfl | (show _ ≤ 601024; omega) | (show _ ≤ 7293034; omega)) (by first | exact Nat.le_of_ble_eq_true rfl | (show _ ≤ 601024; omega) | (show _ ≤ 7293034; omega)) (by first | exact Nat.le_of_ble_eq_true rfl | (show _ ≤ 601024; omega) | (show _ ≤ 7293034; omega)) (by first | exact Nat.le_of_ble_eq_true rfl | (show _ ≤ 601024; omega) | (show _ ≤ 7293034; omega)) (by first | exact Nat.le_of_ble_eq_true rfl | (show _ ≤ 601024; omega) | (show _ ≤ 7293034; omega)) dL_law_313 (sX8_load hM) (fun r h4 hq => ?_) (fun x h9 hq => hq.elim)
  obtain ⟨z3, rfl, hM⟩ := hq
  refine zV_istore O dL_law_316 (by first | exact Nat.le_of_ble_eq_true rfl | (show _ ≤ 601024; omega) | (show _ ≤ 7293034; omega)) rfl ?_
  refine zV_aload_n O dL_law_318 rfl rfl ?_
  refine zV_callV (as := []) (st := []) O zc_X8_thrown (Or.inl zl_RL_100) zi_1295 zi_1296 zt_185 rfl rfl (by decide) (by first | exact Nat.le_of_ble_eq_true rfl | (show _ ≤ 601024; omega) | (show _ ≤ 7293034; omega)) rfl rfl (by first | exact Nat.le_of_ble_eq_true rfl | (show _ ≤ 601024; omega) | (show _ ≤ 7293034; omega)) (by first | exact Nat.le_of_ble_eq_true rfl | (show _ ≤ 601024; omega) | (show _ ≤ 7293034; omega)) (by first | exact Nat.le_of_ble_eq_true rfl | (show _ ≤ 601024; omega) | (show _ ≤ 7293034; omega)) (by first | exact Nat.le_of_ble_eq_true rfl | (show _ ≤ 601024; omega) | (show _ ≤ 7293034; omega)) (by first | exact Nat.le_of_ble_eq_true rfl | (show _ ≤ 601024; omega) | (show _ ≤ 7293034; omega)) (by first | exact Nat.le_of_ble_eq_true rfl | (show _ ≤ 601024; omega) | (show _ ≤ 7293034; omega)) dL_law_319 (sX8_thrown hM) (fun r h9 hq => ?_) (fun x h9 hq => hq.elim)
  obtain ⟨rfl, z5, rfl, hM⟩ := hq
  refine zV_iload O dL_law_322 rfl ?_
  refine zV_icmp_eq (tgt := 329) O dL_law_324 (by decide) (fun hc => ?_) (fun hc => ?_)
  · replace hM := hM.1 hc
    refine zV_iload O dL_law_329 rfl ?_
    refine zV_if_ne (tgt := 346) O dL_law_331 (by decide) (fun hc => ?_) (fun hc => ?_)
    · replace hM := hM.1 hc
      refine zV_goto (tgt := 2046) O dL_law_346 (by decide) ?_
      refine zV_sub (ls2 := [some (aA (b + 1)), some (aR 169), some (aR 185), some (aR 197), some (aI v4), none, none, none, none]) ⟨rfl, rfl, rfl, rfl, rfl, trivial⟩ ?_
      exact hK _ _ _ _ (by omega) (by omega) hM
    · replace hM := hM.2 hc
      refine zV_aload_n O dL_law_334 rfl rfl ?_
      refine zV_iconst (z := 0) O ⟨by omega, by omega⟩ dL_law_335 ?_
      obtain ⟨hc, hM⟩ := hM
      refine zV_lald O zt_197 (by decide) hc dL_law_336 ?_
      refine zV_iload O dL_law_337 rfl ?_
      refine zV_i2l O dL_law_339 ?_
      refine zV_lcmp O dL_law_340 ?_
      refine zV_if_eq (tgt := 346) O dL_law_341 (by decide) (fun hc => ?_) (fun hc => ?_)
      · replace hM := hM.1 hc
        refine zV_goto (tgt := 2046) O dL_law_346 (by decide) ?_
        refine zV_sub (ls2 := [some (aA (b + 1)), some (aR 169), some (aR 185), some (aR 197), some (aI v4), none, none, none, none]) ⟨rfl, rfl, rfl, rfl, rfl, trivial⟩ ?_
        exact hK _ _ _ _ (by omega) (by omega) hM
      · replace hM := hM.2 hc
        refine zV_iconst (z := 0) O ⟨by omega, by omega⟩ dL_law_344 ?_
        exact zV_zret O rfl (Or.inl rfl) ⟨_, rfl, (Or.inl rfl), hM⟩ (by first | exact Nat.le_of_ble_eq_true rfl | (show _ ≤ 601024; omega) | (show _ ≤ 7293034; omega)) (by first | exact Nat.le_of_ble_eq_true rfl | (show _ ≤ 601024; omega) | (show _ ≤ 7293034; omega)) dL_law_345
  · replace hM := hM.2 hc
    refine zV_iconst (z := 0) O ⟨by omega, by omega⟩ dL_law_327 ?_
    exact zV_zret O rfl (Or.inl rfl) ⟨_, rfl, (Or.inl rfl), hM⟩ (by first | exact Nat.le_of_ble_eq_true rfl | (show _ ≤ 601024; omega) | (show _ ≤ 7293034; omega)) (by first | exact Nat.le_of_ble_eq_true rfl | (show _ ≤ 601024; omega) | (show _ ≤ 7293034; omega)) dL_law_328
def mW_2 (sc : Int → Int) (L : Int) (Q : Int → Hp → Prop) (K : Int → Hp → Prop) (v4 : Int) (h : Hp) : Prop := (mX7_errorPosition h (fun z1 => (mX8_errorPosition h (fun z2 h3 => ((z1 = z2 → (K v4 h3)) ∧ (¬ z1 = z2 → (Q 0 h3)))))))
set_option maxHeartbeats 4000000 in
set_option maxRecDepth 100000 in
theorem sW_2 {l0 : Launch} {a : ZC} {b : Nat} {L : Int} {sc : Int → Int} {Q : Int → Hp → Prop} {K : Int → Hp → Prop} {k n : Nat} {v4 : Int} {h : Hp} (O : zOk l0 a cL_law RL 9 (some .boolean) 198 []) (hS : zScr a b L sc) (hk : k ≤ 600000) (hn : n ≤ 7200000) (hK : ∀ (k2 n2 : Nat) (v4 : Int) (h : Hp), k2 ≤ k + 1 → n2 ≤ n + 6 → K v4 h → zV a (2048, 601024, 7293034, (qZ Q), xN) k2 n2 2046 [some (aA (b + 1)), some (aR 169), some (aR 185), some (aR 197), some (aI v4), none, none, none, none] [] h) (hM : mW_2 sc L Q K v4 h) : zV a (2048, 601024, 7293034, (qZ Q), xN) k n 349 [some (aA (b + 1)), some (aR 169), some (aR 185), some (aR 197), some (aI v4), none, none, none, none] [] h := by
  unfold mW_2 at hM
  refine zV_aload_n O dL_law_349 rfl rfl ?_
  refine zV_callV (as := []) (st := []) O zc_X7_errorPosition (Or.inl zl_RL_104) zi_489 zi_490 zt_169 rfl rfl (by decide) (by first | exact Nat.le_of_ble_eq_true rfl | (show _ ≤ 601024; omega) | (show _ ≤ 7293034; omega)) rfl rfl (by first | exact Nat.le_of_ble_eq_true rfl | (show _ ≤ 601024; omega) | (show _ ≤ 7293034; omega)) (by first | exact Nat.le_of_ble_eq_true rfl | (show _ ≤ 601024; omega) | (show _ ≤ 7293034; omega)) (by first | exact Nat.le_of_ble_eq_true rfl | (show _ ≤ 601024; omega) | (show _ ≤ 7293034; omega)) (by first | exact Nat.le_of_ble_eq_true rfl | (show _ ≤ 601024; omega) | (show _ ≤ 7293034; omega)) (by first | exact Nat.le_of_ble_eq_true rfl | (show _ ≤ 601024; omega) | (show _ ≤ 7293034; omega)) (by first | exact Nat.le_of_ble_eq_true rfl | (show _ ≤ 601024; omega) | (show _ ≤ 7293034; omega)) dL_law_350 (sX7_errorPosition hM) (fun r h9 hq => ?_) (fun x h9 hq => hq.elim)
  obtain ⟨rfl, z1, rfl, hM⟩ := hq
  refine zV_aload_n O dL_law_353 rfl rfl ?_
  refine zV_callV (as := []) (st := [aI z1]) O zc_X8_errorPosition (Or.inl zl_RL_107) zi_1408 zi_1409 zt_185 rfl rfl (by decide) (by first | exact Nat.le_of_ble_eq_true rfl | (show _ ≤ 601024; omega) | (show _ ≤ 7293034; omega)) rfl rfl (by first | exact Nat.le_of_ble_eq_true rfl | (show _ ≤ 601024; omega) | (show _ ≤ 7293034; omega)) (by first | exact Nat.le_of_ble_eq_true rfl | (show _ ≤ 601024; omega) | (show _ ≤ 7293034; omega)) (by first | exact Nat.le_of_ble_eq_true rfl | (show _ ≤ 601024; omega) | (show _ ≤ 7293034; omega)) (by first | exact Nat.le_of_ble_eq_true rfl | (show _ ≤ 601024; omega) | (show _ ≤ 7293034; omega)) (by first | exact Nat.le_of_ble_eq_true rfl | (show _ ≤ 601024; omega) | (show _ ≤ 7293034; omega)) (by first | exact Nat.le_of_ble_eq_true rfl | (show _ ≤ 601024; omega) | (show _ ≤ 7293034; omega)) dL_law_354 (sX8_errorPosition hM) (fun r h3 hq => ?_) (fun x h9 hq => hq.elim)
  obtain ⟨z2, rfl, hM⟩ := hq
  refine zV_icmp_eq (tgt := 2046) O dL_law_357 (by decide) (fun hc => ?_) (fun hc => ?_)
  · replace hM := hM.1 hc
    refine zV_sub (ls2 := [some (aA (b + 1)), some (aR 169), some (aR 185), some (aR 197), some (aI v4), none, none, none, none]) ⟨rfl, rfl, rfl, rfl, rfl, trivial⟩ ?_
    exact hK _ _ _ _ (by omega) (by omega) hM
  · replace hM := hM.2 hc
    refine zV_iconst (z := 0) O ⟨by omega, by omega⟩ dL_law_360 ?_
    exact zV_zret O rfl (Or.inl rfl) ⟨_, rfl, (Or.inl rfl), hM⟩ (by first | exact Nat.le_of_ble_eq_true rfl | (show _ ≤ 601024; omega) | (show _ ≤ 7293034; omega)) (by first | exact Nat.le_of_ble_eq_true rfl | (show _ ≤ 601024; omega) | (show _ ≤ 7293034; omega)) dL_law_361
def mW_3 (sc : Int → Int) (L : Int) (Q : Int → Hp → Prop) (K : Int → Hp → Prop) (v4 : Int) (h : Hp) : Prop := (zr (v4 + 1) ∧ (((0 : Int) ≤ (v4 + 1) ∧ (v4 + 1) < L) ∧ (mL_size (sc (v4 + 1)) h (fun z1 h2 => (zr (v4 + 1) ∧ (((0 : Int) ≤ (v4 + 1) ∧ (v4 + 1) < L) ∧ (mX8_size (sc (v4 + 1)) h2 (fun z3 h4 => (mX8_thrown h4 (fun z5 => ((z5 = z1 → ((¬ z1 = 0 → (K v4 h4)) ∧ (z1 = 0 → (((0 : Int) ≤ 0 ∧ (0 : Int) < 1) ∧ (((zlcmp (rd h4 197 0) z3) = 0 → (K v4 h4)) ∧ (¬ (zlcmp (rd h4 197 0) z3) = 0 → (Q 0 h4))))))) ∧ (¬ z5 = z1 → (Q 0 h4)))))))))))))
set_option maxHeartbeats 4000000 in
set_option maxRecDepth 100000 in
theorem sW_3 {l0 : Launch} {a : ZC} {b : Nat} {L : Int} {sc : Int → Int} {Q : Int → Hp → Prop} {K : Int → Hp → Prop} {k n : Nat} {v4 : Int} {h : Hp} (O : zOk l0 a cL_law RL 9 (some .boolean) 198 []) (hS : zScr a b L sc) (hk : k ≤ 600000) (hn : n ≤ 7200000) (hK : ∀ (k2 n2 : Nat) (v4 : Int) (h : Hp), k2 ≤ k + 1 → n2 ≤ n + 6 → K v4 h → zV a (2048, 601024, 7293034, (qZ Q), xN) k2 n2 2046 [some (aA (b + 1)), some (aR 169), some (aR 185), some (aR 197), some (aI v4), none, none, none, none] [] h) (hM : mW_3 sc L Q K v4 h) : zV a (2048, 601024, 7293034, (qZ Q), xN) k n 362 [some (aA (b + 1)), some (aR 169), some (aR 185), some (aR 197), some (aI v4), none, none, none, none] [] h := by
  unfold mW_3 at hM
  refine zV_aload_n O dL_law_362 rfl rfl ?_
  refine zV_aload_n O dL_law_363 rfl rfl ?_
  refine zV_iload O dL_law_364 rfl ?_
  refine zV_iconst (z := 1) O ⟨by omega, by omega⟩ dL_law_366 ?_
  obtain ⟨hc, hM⟩ := hM
  refine zV_iadd O dL_law_367 hc ?_
  obtain ⟨hc, hM⟩ := hM
  refine zV_sld O hS hc dL_law_368 ?_
  refine zV_aload_n O dL_law_369 rfl rfl ?_
  refine zV_callSH (as := [aR 169, aI (sc (v4 + 1)), aR 197]) (st := []) O zch_L_size.1 zch_L_size.2.1 zch_L_size.2.2.1 zch_L_size.2.2.2 zl_RL_108 zi_969 (by first | exact Nat.le_of_ble_eq_true rfl | (show _ ≤ 601024; omega) | (show _ ≤ 7293034; omega)) rfl rfl (by first | exact Nat.le_of_ble_eq_true rfl | (show _ ≤ 601024; omega) | (show _ ≤ 7293034; omega)) (by first | exact Nat.le_of_ble_eq_true rfl | (show _ ≤ 601024; omega) | (show _ ≤ 7293034; omega)) (by first | exact Nat.le_of_ble_eq_true rfl | (show _ ≤ 601024; omega) | (show _ ≤ 7293034; omega)) (by first | exact Nat.le_of_ble_eq_true rfl | (show _ ≤ 601024; omega) | (show _ ≤ 7293034; omega)) (by first | exact Nat.le_of_ble_eq_true rfl | (show _ ≤ 601024; omega) | (show _ ≤ 7293034; omega)) (by first | exact Nat.le_of_ble_eq_true rfl | (show _ ≤ 601024; omega) | (show _ ≤ 7293034; omega)) dL_law_370 (sL_size hM) (fun r h2 hq => ?_) (fun x h9 hq => hq.elim)
  obtain ⟨z1, rfl, hM⟩ := hq
  refine zV_istore O dL_law_373 (by first | exact Nat.le_of_ble_eq_true rfl | (show _ ≤ 601024; omega) | (show _ ≤ 7293034; omega)) rfl ?_
  refine zV_aload_n O dL_law_375 rfl rfl ?_
  refine zV_aload_n O dL_law_376 rfl rfl ?_
  refine zV_iload O dL_law_377 rfl ?_
  refine zV_iconst (z := 1) O ⟨by omega, by omega⟩ dL_law_379 ?_
  obtain ⟨hc, hM⟩ := hM
  refine zV_iadd O dL_law_380 hc ?_
  obtain ⟨hc, hM⟩ := hM
  refine zV_sld O hS hc dL_law_381 ?_
  refine zV_callV (as := [aI (sc (v4 + 1))]) (st := []) O zc_X8_size (Or.inl zl_RL_110) zi_1539 zi_1540 zt_185 rfl rfl (by decide) (by first | exact Nat.le_of_ble_eq_true rfl | (show _ ≤ 601024; omega) | (show _ ≤ 7293034; omega)) rfl rfl (by first | exact Nat.le_of_ble_eq_true rfl | (show _ ≤ 601024; omega) | (show _ ≤ 7293034; omega)) (by first | exact Nat.le_of_ble_eq_true rfl | (show _ ≤ 601024; omega) | (show _ ≤ 7293034; omega)) (by first | exact Nat.le_of_ble_eq_true rfl | (show _ ≤ 601024; omega) | (show _ ≤ 7293034; omega)) (by first | exact Nat.le_of_ble_eq_true rfl | (show _ ≤ 601024; omega) | (show _ ≤ 7293034; omega)) (by first | exact Nat.le_of_ble_eq_true rfl | (show _ ≤ 601024; omega) | (show _ ≤ 7293034; omega)) (by first | exact Nat.le_of_ble_eq_true rfl | (show _ ≤ 601024; omega) | (show _ ≤ 7293034; omega)) dL_law_382 (sX8_size hM) (fun r h4 hq => ?_) (fun x h9 hq => hq.elim)
  obtain ⟨z3, rfl, hM⟩ := hq
  refine zV_istore O dL_law_385 (by first | exact Nat.le_of_ble_eq_true rfl | (show _ ≤ 601024; omega) | (show _ ≤ 7293034; omega)) rfl ?_
  refine zV_aload_n O dL_law_387 rfl rfl ?_
  refine zV_callV (as := []) (st := []) O zc_X8_thrown (Or.inl zl_RL_100) zi_1295 zi_1296 zt_185 rfl rfl (by decide) (by first | exact Nat.le_of_ble_eq_true rfl | (show _ ≤ 601024; omega) | (show _ ≤ 7293034; omega)) rfl rfl (by first | exact Nat.le_of_ble_eq_true rfl | (show _ ≤ 601024; omega) | (show _ ≤ 7293034; omega)) (by first | exact Nat.le_of_ble_eq_true rfl | (show _ ≤ 601024; omega) | (show _ ≤ 7293034; omega)) (by first | exact Nat.le_of_ble_eq_true rfl | (show _ ≤ 601024; omega) | (show _ ≤ 7293034; omega)) (by first | exact Nat.le_of_ble_eq_true rfl | (show _ ≤ 601024; omega) | (show _ ≤ 7293034; omega)) (by first | exact Nat.le_of_ble_eq_true rfl | (show _ ≤ 601024; omega) | (show _ ≤ 7293034; omega)) (by first | exact Nat.le_of_ble_eq_true rfl | (show _ ≤ 601024; omega) | (show _ ≤ 7293034; omega)) dL_law_388 (sX8_thrown hM) (fun r h9 hq => ?_) (fun x h9 hq => hq.elim)
  obtain ⟨rfl, z5, rfl, hM⟩ := hq
  refine zV_iload O dL_law_391 rfl ?_
  refine zV_icmp_eq (tgt := 398) O dL_law_393 (by decide) (fun hc => ?_) (fun hc => ?_)
  · replace hM := hM.1 hc
    refine zV_iload O dL_law_398 rfl ?_
    refine zV_if_ne (tgt := 415) O dL_law_400 (by decide) (fun hc => ?_) (fun hc => ?_)
    · replace hM := hM.1 hc
      refine zV_goto (tgt := 2046) O dL_law_415 (by decide) ?_
      refine zV_sub (ls2 := [some (aA (b + 1)), some (aR 169), some (aR 185), some (aR 197), some (aI v4), none, none, none, none]) ⟨rfl, rfl, rfl, rfl, rfl, trivial⟩ ?_
      exact hK _ _ _ _ (by omega) (by omega) hM
    · replace hM := hM.2 hc
      refine zV_aload_n O dL_law_403 rfl rfl ?_
      refine zV_iconst (z := 0) O ⟨by omega, by omega⟩ dL_law_404 ?_
      obtain ⟨hc, hM⟩ := hM
      refine zV_lald O zt_197 (by decide) hc dL_law_405 ?_
      refine zV_iload O dL_law_406 rfl ?_
      refine zV_i2l O dL_law_408 ?_
      refine zV_lcmp O dL_law_409 ?_
      refine zV_if_eq (tgt := 415) O dL_law_410 (by decide) (fun hc => ?_) (fun hc => ?_)
      · replace hM := hM.1 hc
        refine zV_goto (tgt := 2046) O dL_law_415 (by decide) ?_
        refine zV_sub (ls2 := [some (aA (b + 1)), some (aR 169), some (aR 185), some (aR 197), some (aI v4), none, none, none, none]) ⟨rfl, rfl, rfl, rfl, rfl, trivial⟩ ?_
        exact hK _ _ _ _ (by omega) (by omega) hM
      · replace hM := hM.2 hc
        refine zV_iconst (z := 0) O ⟨by omega, by omega⟩ dL_law_413 ?_
        exact zV_zret O rfl (Or.inl rfl) ⟨_, rfl, (Or.inl rfl), hM⟩ (by first | exact Nat.le_of_ble_eq_true rfl | (show _ ≤ 601024; omega) | (show _ ≤ 7293034; omega)) (by first | exact Nat.le_of_ble_eq_true rfl | (show _ ≤ 601024; omega) | (show _ ≤ 7293034; omega)) dL_law_414
  · replace hM := hM.2 hc
    refine zV_iconst (z := 0) O ⟨by omega, by omega⟩ dL_law_396 ?_
    exact zV_zret O rfl (Or.inl rfl) ⟨_, rfl, (Or.inl rfl), hM⟩ (by first | exact Nat.le_of_ble_eq_true rfl | (show _ ≤ 601024; omega) | (show _ ≤ 7293034; omega)) (by first | exact Nat.le_of_ble_eq_true rfl | (show _ ≤ 601024; omega) | (show _ ≤ 7293034; omega)) dL_law_397
def mW_4 (sc : Int → Int) (L : Int) (Q : Int → Hp → Prop) (K : Int → Hp → Prop) (v4 : Int) (h : Hp) : Prop := (zr (v4 + 1) ∧ (((0 : Int) ≤ (v4 + 1) ∧ (v4 + 1) < L) ∧ (zr (v4 + 2) ∧ (((0 : Int) ≤ (v4 + 2) ∧ (v4 + 2) < L) ∧ (mL_host (sc (v4 + 1)) (sc (v4 + 2)) h (fun z1 h2 => (zr (v4 + 1) ∧ (((0 : Int) ≤ (v4 + 1) ∧ (v4 + 1) < L) ∧ (zr (v4 + 2) ∧ (((0 : Int) ≤ (v4 + 2) ∧ (v4 + 2) < L) ∧ (mX8_host (sc (v4 + 1)) (sc (v4 + 2)) h2 (fun z3 h4 => (mX8_thrown h4 (fun z5 => ((z5 = z1 → ((¬ z1 = 0 → (K v4 h4)) ∧ (z1 = 0 → (((0 : Int) ≤ 0 ∧ (0 : Int) < 1) ∧ (((zlcmp (rd h4 197 0) z3) = 0 → (K v4 h4)) ∧ (¬ (zlcmp (rd h4 197 0) z3) = 0 → (Q 0 h4))))))) ∧ (¬ z5 = z1 → (Q 0 h4)))))))))))))))))
set_option maxHeartbeats 4000000 in
set_option maxRecDepth 100000 in
theorem sW_4 {l0 : Launch} {a : ZC} {b : Nat} {L : Int} {sc : Int → Int} {Q : Int → Hp → Prop} {K : Int → Hp → Prop} {k n : Nat} {v4 : Int} {h : Hp} (O : zOk l0 a cL_law RL 9 (some .boolean) 198 []) (hS : zScr a b L sc) (hk : k ≤ 600000) (hn : n ≤ 7200000) (hK : ∀ (k2 n2 : Nat) (v4 : Int) (h : Hp), k2 ≤ k + 1 → n2 ≤ n + 6 → K v4 h → zV a (2048, 601024, 7293034, (qZ Q), xN) k2 n2 2046 [some (aA (b + 1)), some (aR 169), some (aR 185), some (aR 197), some (aI v4), none, none, none, none] [] h) (hM : mW_4 sc L Q K v4 h) : zV a (2048, 601024, 7293034, (qZ Q), xN) k n 418 [some (aA (b + 1)), some (aR 169), some (aR 185), some (aR 197), some (aI v4), none, none, none, none] [] h := by
  unfold mW_4 at hM
  refine zV_aload_n O dL_law_418 rfl rfl ?_
  refine zV_aload_n O dL_law_419 rfl rfl ?_
  refine zV_iload O dL_law_420 rfl ?_
  refine zV_iconst (z := 1) O ⟨by omega, by omega⟩ dL_law_422 ?_
  obtain ⟨hc, hM⟩ := hM
  refine zV_iadd O dL_law_423 hc ?_
  obtain ⟨hc, hM⟩ := hM
  refine zV_sld O hS hc dL_law_424 ?_
  refine zV_aload_n O dL_law_425 rfl rfl ?_
  refine zV_iload O dL_law_426 rfl ?_
  refine zV_iconst (z := 2) O ⟨by omega, by omega⟩ dL_law_428 ?_
  obtain ⟨hc, hM⟩ := hM
  refine zV_iadd O dL_law_429 hc ?_
  obtain ⟨hc, hM⟩ := hM
  refine zV_sld O hS hc dL_law_430 ?_
  refine zV_aload_n O dL_law_431 rfl rfl ?_
  refine zV_callSH (as := [aR 169, aI (sc (v4 + 1)), aI (sc (v4 + 2)), aR 197]) (st := []) O zch_L_host.1 zch_L_host.2.1 zch_L_host.2.2.1 zch_L_host.2.2.2 zl_RL_111 zi_1000 (by first | exact Nat.le_of_ble_eq_true rfl | (show _ ≤ 601024; omega) | (show _ ≤ 7293034; omega)) rfl rfl (by first | exact Nat.le_of_ble_eq_true rfl | (show _ ≤ 601024; omega) | (show _ ≤ 7293034; omega)) (by first | exact Nat.le_of_ble_eq_true rfl | (show _ ≤ 601024; omega) | (show _ ≤ 7293034; omega)) (by first | exact Nat.le_of_ble_eq_true rfl | (show _ ≤ 601024; omega) | (show _ ≤ 7293034; omega)) (by first | exact Nat.le_of_ble_eq_true rfl | (show _ ≤ 601024; omega) | (show _ ≤ 7293034; omega)) (by first | exact Nat.le_of_ble_eq_true rfl | (show _ ≤ 601024; omega) | (show _ ≤ 7293034; omega)) (by first | exact Nat.le_of_ble_eq_true rfl | (show _ ≤ 601024; omega) | (show _ ≤ 7293034; omega)) dL_law_432 (sL_host hM) (fun r h2 hq => ?_) (fun x h9 hq => hq.elim)
  obtain ⟨z1, rfl, hM⟩ := hq
  refine zV_istore O dL_law_435 (by first | exact Nat.le_of_ble_eq_true rfl | (show _ ≤ 601024; omega) | (show _ ≤ 7293034; omega)) rfl ?_
  refine zV_aload_n O dL_law_437 rfl rfl ?_
  refine zV_aload_n O dL_law_438 rfl rfl ?_
  refine zV_iload O dL_law_439 rfl ?_
  refine zV_iconst (z := 1) O ⟨by omega, by omega⟩ dL_law_441 ?_
  obtain ⟨hc, hM⟩ := hM
  refine zV_iadd O dL_law_442 hc ?_
  obtain ⟨hc, hM⟩ := hM
  refine zV_sld O hS hc dL_law_443 ?_
  refine zV_aload_n O dL_law_444 rfl rfl ?_
  refine zV_iload O dL_law_445 rfl ?_
  refine zV_iconst (z := 2) O ⟨by omega, by omega⟩ dL_law_447 ?_
  obtain ⟨hc, hM⟩ := hM
  refine zV_iadd O dL_law_448 hc ?_
  obtain ⟨hc, hM⟩ := hM
  refine zV_sld O hS hc dL_law_449 ?_
  refine zV_callV (as := [aI (sc (v4 + 1)), aI (sc (v4 + 2))]) (st := []) O zc_X8_host (Or.inl zl_RL_114) zi_1584 zi_1585 zt_185 rfl rfl (by decide) (by first | exact Nat.le_of_ble_eq_true rfl | (show _ ≤ 601024; omega) | (show _ ≤ 7293034; omega)) rfl rfl (by first | exact Nat.le_of_ble_eq_true rfl | (show _ ≤ 601024; omega) | (show _ ≤ 7293034; omega)) (by first | exact Nat.le_of_ble_eq_true rfl | (show _ ≤ 601024; omega) | (show _ ≤ 7293034; omega)) (by first | exact Nat.le_of_ble_eq_true rfl | (show _ ≤ 601024; omega) | (show _ ≤ 7293034; omega)) (by first | exact Nat.le_of_ble_eq_true rfl | (show _ ≤ 601024; omega) | (show _ ≤ 7293034; omega)) (by first | exact Nat.le_of_ble_eq_true rfl | (show _ ≤ 601024; omega) | (show _ ≤ 7293034; omega)) (by first | exact Nat.le_of_ble_eq_true rfl | (show _ ≤ 601024; omega) | (show _ ≤ 7293034; omega)) dL_law_450 (sX8_host hM) (fun r h4 hq => ?_) (fun x h9 hq => hq.elim)
  obtain ⟨z3, rfl, hM⟩ := hq
  refine zV_istore O dL_law_453 (by first | exact Nat.le_of_ble_eq_true rfl | (show _ ≤ 601024; omega) | (show _ ≤ 7293034; omega)) rfl ?_
  refine zV_aload_n O dL_law_455 rfl rfl ?_
  refine zV_callV (as := []) (st := []) O zc_X8_thrown (Or.inl zl_RL_100) zi_1295 zi_1296 zt_185 rfl rfl (by decide) (by first | exact Nat.le_of_ble_eq_true rfl | (show _ ≤ 601024; omega) | (show _ ≤ 7293034; omega)) rfl rfl (by first | exact Nat.le_of_ble_eq_true rfl | (show _ ≤ 601024; omega) | (show _ ≤ 7293034; omega)) (by first | exact Nat.le_of_ble_eq_true rfl | (show _ ≤ 601024; omega) | (show _ ≤ 7293034; omega)) (by first | exact Nat.le_of_ble_eq_true rfl | (show _ ≤ 601024; omega) | (show _ ≤ 7293034; omega)) (by first | exact Nat.le_of_ble_eq_true rfl | (show _ ≤ 601024; omega) | (show _ ≤ 7293034; omega)) (by first | exact Nat.le_of_ble_eq_true rfl | (show _ ≤ 601024; omega) | (show _ ≤ 7293034; omega)) (by first | exact Nat.le_of_ble_eq_true rfl | (show _ ≤ 601024; omega) | (show _ ≤ 7293034; omega)) dL_law_456 (sX8_thrown hM) (fun r h9 hq => ?_) (fun x h9 hq => hq.elim)
  obtain ⟨rfl, z5, rfl, hM⟩ := hq
  refine zV_iload O dL_law_459 rfl ?_
  refine zV_icmp_eq (tgt := 466) O dL_law_461 (by decide) (fun hc => ?_) (fun hc => ?_)
  · replace hM := hM.1 hc
    refine zV_iload O dL_law_466 rfl ?_
    refine zV_if_ne (tgt := 483) O dL_law_468 (by decide) (fun hc => ?_) (fun hc => ?_)
    · replace hM := hM.1 hc
      refine zV_goto (tgt := 2046) O dL_law_483 (by decide) ?_
      refine zV_sub (ls2 := [some (aA (b + 1)), some (aR 169), some (aR 185), some (aR 197), some (aI v4), none, none, none, none]) ⟨rfl, rfl, rfl, rfl, rfl, trivial⟩ ?_
      exact hK _ _ _ _ (by omega) (by omega) hM
    · replace hM := hM.2 hc
      refine zV_aload_n O dL_law_471 rfl rfl ?_
      refine zV_iconst (z := 0) O ⟨by omega, by omega⟩ dL_law_472 ?_
      obtain ⟨hc, hM⟩ := hM
      refine zV_lald O zt_197 (by decide) hc dL_law_473 ?_
      refine zV_iload O dL_law_474 rfl ?_
      refine zV_i2l O dL_law_476 ?_
      refine zV_lcmp O dL_law_477 ?_
      refine zV_if_eq (tgt := 483) O dL_law_478 (by decide) (fun hc => ?_) (fun hc => ?_)
      · replace hM := hM.1 hc
        refine zV_goto (tgt := 2046) O dL_law_483 (by decide) ?_
        refine zV_sub (ls2 := [some (aA (b + 1)), some (aR 169), some (aR 185), some (aR 197), some (aI v4), none, none, none, none]) ⟨rfl, rfl, rfl, rfl, rfl, trivial⟩ ?_
        exact hK _ _ _ _ (by omega) (by omega) hM
      · replace hM := hM.2 hc
        refine zV_iconst (z := 0) O ⟨by omega, by omega⟩ dL_law_481 ?_
        exact zV_zret O rfl (Or.inl rfl) ⟨_, rfl, (Or.inl rfl), hM⟩ (by first | exact Nat.le_of_ble_eq_true rfl | (show _ ≤ 601024; omega) | (show _ ≤ 7293034; omega)) (by first | exact Nat.le_of_ble_eq_true rfl | (show _ ≤ 601024; omega) | (show _ ≤ 7293034; omega)) dL_law_482
  · replace hM := hM.2 hc
    refine zV_iconst (z := 0) O ⟨by omega, by omega⟩ dL_law_464 ?_
    exact zV_zret O rfl (Or.inl rfl) ⟨_, rfl, (Or.inl rfl), hM⟩ (by first | exact Nat.le_of_ble_eq_true rfl | (show _ ≤ 601024; omega) | (show _ ≤ 7293034; omega)) (by first | exact Nat.le_of_ble_eq_true rfl | (show _ ≤ 601024; omega) | (show _ ≤ 7293034; omega)) dL_law_465
def mW_5 (sc : Int → Int) (L : Int) (Q : Int → Hp → Prop) (K : Int → Hp → Prop) (v4 : Int) (h : Hp) : Prop := (zr (v4 + 1) ∧ (((0 : Int) ≤ (v4 + 1) ∧ (v4 + 1) < L) ∧ (zr (v4 + 2) ∧ (((0 : Int) ≤ (v4 + 2) ∧ (v4 + 2) < L) ∧ (mL_name (sc (v4 + 1)) (sc (v4 + 2)) h (fun z1 h2 => (zr (v4 + 1) ∧ (((0 : Int) ≤ (v4 + 1) ∧ (v4 + 1) < L) ∧ (zr (v4 + 2) ∧ (((0 : Int) ≤ (v4 + 2) ∧ (v4 + 2) < L) ∧ (mX8_name (sc (v4 + 1)) (sc (v4 + 2)) h2 (fun z3 h4 => (mX8_thrown h4 (fun z5 => ((z5 = z1 → ((¬ z1 = 0 → (K v4 h4)) ∧ (z1 = 0 → (((0 : Int) ≤ 0 ∧ (0 : Int) < 1) ∧ (((zlcmp (rd h4 197 0) z3) = 0 → (K v4 h4)) ∧ (¬ (zlcmp (rd h4 197 0) z3) = 0 → (Q 0 h4))))))) ∧ (¬ z5 = z1 → (Q 0 h4)))))))))))))))))
set_option maxHeartbeats 4000000 in
set_option maxRecDepth 100000 in
theorem sW_5 {l0 : Launch} {a : ZC} {b : Nat} {L : Int} {sc : Int → Int} {Q : Int → Hp → Prop} {K : Int → Hp → Prop} {k n : Nat} {v4 : Int} {h : Hp} (O : zOk l0 a cL_law RL 9 (some .boolean) 198 []) (hS : zScr a b L sc) (hk : k ≤ 600000) (hn : n ≤ 7200000) (hK : ∀ (k2 n2 : Nat) (v4 : Int) (h : Hp), k2 ≤ k + 1 → n2 ≤ n + 6 → K v4 h → zV a (2048, 601024, 7293034, (qZ Q), xN) k2 n2 2046 [some (aA (b + 1)), some (aR 169), some (aR 185), some (aR 197), some (aI v4), none, none, none, none] [] h) (hM : mW_5 sc L Q K v4 h) : zV a (2048, 601024, 7293034, (qZ Q), xN) k n 486 [some (aA (b + 1)), some (aR 169), some (aR 185), some (aR 197), some (aI v4), none, none, none, none] [] h := by
  unfold mW_5 at hM
  refine zV_aload_n O dL_law_486 rfl rfl ?_
  refine zV_aload_n O dL_law_487 rfl rfl ?_
  refine zV_iload O dL_law_488 rfl ?_
  refine zV_iconst (z := 1) O ⟨by omega, by omega⟩ dL_law_490 ?_
  obtain ⟨hc, hM⟩ := hM
  refine zV_iadd O dL_law_491 hc ?_
  obtain ⟨hc, hM⟩ := hM
  refine zV_sld O hS hc dL_law_492 ?_
  refine zV_aload_n O dL_law_493 rfl rfl ?_
  refine zV_iload O dL_law_494 rfl ?_
  refine zV_iconst (z := 2) O ⟨by omega, by omega⟩ dL_law_496 ?_
  obtain ⟨hc, hM⟩ := hM
  refine zV_iadd O dL_law_497 hc ?_
  obtain ⟨hc, hM⟩ := hM
  refine zV_sld O hS hc dL_law_498 ?_
  refine zV_aload_n O dL_law_499 rfl rfl ?_
  refine zV_callSH (as := [aR 169, aI (sc (v4 + 1)), aI (sc (v4 + 2)), aR 197]) (st := []) O zch_L_name.1 zch_L_name.2.1 zch_L_name.2.2.1 zch_L_name.2.2.2 zl_RL_115 zi_1012 (by first | exact Nat.le_of_ble_eq_true rfl | (show _ ≤ 601024; omega) | (show _ ≤ 7293034; omega)) rfl rfl (by first | exact Nat.le_of_ble_eq_true rfl | (show _ ≤ 601024; omega) | (show _ ≤ 7293034; omega)) (by first | exact Nat.le_of_ble_eq_true rfl | (show _ ≤ 601024; omega) | (show _ ≤ 7293034; omega)) (by first | exact Nat.le_of_ble_eq_true rfl | (show _ ≤ 601024; omega) | (show _ ≤ 7293034; omega)) (by first | exact Nat.le_of_ble_eq_true rfl | (show _ ≤ 601024; omega) | (show _ ≤ 7293034; omega)) (by first | exact Nat.le_of_ble_eq_true rfl | (show _ ≤ 601024; omega) | (show _ ≤ 7293034; omega)) (by first | exact Nat.le_of_ble_eq_true rfl | (show _ ≤ 601024; omega) | (show _ ≤ 7293034; omega)) dL_law_500 (sL_name hM) (fun r h2 hq => ?_) (fun x h9 hq => hq.elim)
  obtain ⟨z1, rfl, hM⟩ := hq
  refine zV_istore O dL_law_503 (by first | exact Nat.le_of_ble_eq_true rfl | (show _ ≤ 601024; omega) | (show _ ≤ 7293034; omega)) rfl ?_
  refine zV_aload_n O dL_law_505 rfl rfl ?_
  refine zV_aload_n O dL_law_506 rfl rfl ?_
  refine zV_iload O dL_law_507 rfl ?_
  refine zV_iconst (z := 1) O ⟨by omega, by omega⟩ dL_law_509 ?_
  obtain ⟨hc, hM⟩ := hM
  refine zV_iadd O dL_law_510 hc ?_
  obtain ⟨hc, hM⟩ := hM
  refine zV_sld O hS hc dL_law_511 ?_
  refine zV_aload_n O dL_law_512 rfl rfl ?_
  refine zV_iload O dL_law_513 rfl ?_
  refine zV_iconst (z := 2) O ⟨by omega, by omega⟩ dL_law_515 ?_
  obtain ⟨hc, hM⟩ := hM
  refine zV_iadd O dL_law_516 hc ?_
  obtain ⟨hc, hM⟩ := hM
  refine zV_sld O hS hc dL_law_517 ?_
  refine zV_callV (as := [aI (sc (v4 + 1)), aI (sc (v4 + 2))]) (st := []) O zc_X8_name (Or.inl zl_RL_117) zi_1593 zi_1594 zt_185 rfl rfl (by decide) (by first | exact Nat.le_of_ble_eq_true rfl | (show _ ≤ 601024; omega) | (show _ ≤ 7293034; omega)) rfl rfl (by first | exact Nat.le_of_ble_eq_true rfl | (show _ ≤ 601024; omega) | (show _ ≤ 7293034; omega)) (by first | exact Nat.le_of_ble_eq_true rfl | (show _ ≤ 601024; omega) | (show _ ≤ 7293034; omega)) (by first | exact Nat.le_of_ble_eq_true rfl | (show _ ≤ 601024; omega) | (show _ ≤ 7293034; omega)) (by first | exact Nat.le_of_ble_eq_true rfl | (show _ ≤ 601024; omega) | (show _ ≤ 7293034; omega)) (by first | exact Nat.le_of_ble_eq_true rfl | (show _ ≤ 601024; omega) | (show _ ≤ 7293034; omega)) (by first | exact Nat.le_of_ble_eq_true rfl | (show _ ≤ 601024; omega) | (show _ ≤ 7293034; omega)) dL_law_518 (sX8_name hM) (fun r h4 hq => ?_) (fun x h9 hq => hq.elim)
  obtain ⟨z3, rfl, hM⟩ := hq
  refine zV_istore O dL_law_521 (by first | exact Nat.le_of_ble_eq_true rfl | (show _ ≤ 601024; omega) | (show _ ≤ 7293034; omega)) rfl ?_
  refine zV_aload_n O dL_law_523 rfl rfl ?_
  refine zV_callV (as := []) (st := []) O zc_X8_thrown (Or.inl zl_RL_100) zi_1295 zi_1296 zt_185 rfl rfl (by decide) (by first | exact Nat.le_of_ble_eq_true rfl | (show _ ≤ 601024; omega) | (show _ ≤ 7293034; omega)) rfl rfl (by first | exact Nat.le_of_ble_eq_true rfl | (show _ ≤ 601024; omega) | (show _ ≤ 7293034; omega)) (by first | exact Nat.le_of_ble_eq_true rfl | (show _ ≤ 601024; omega) | (show _ ≤ 7293034; omega)) (by first | exact Nat.le_of_ble_eq_true rfl | (show _ ≤ 601024; omega) | (show _ ≤ 7293034; omega)) (by first | exact Nat.le_of_ble_eq_true rfl | (show _ ≤ 601024; omega) | (show _ ≤ 7293034; omega)) (by first | exact Nat.le_of_ble_eq_true rfl | (show _ ≤ 601024; omega) | (show _ ≤ 7293034; omega)) (by first | exact Nat.le_of_ble_eq_true rfl | (show _ ≤ 601024; omega) | (show _ ≤ 7293034; omega)) dL_law_524 (sX8_thrown hM) (fun r h9 hq => ?_) (fun x h9 hq => hq.elim)
  obtain ⟨rfl, z5, rfl, hM⟩ := hq
  refine zV_iload O dL_law_527 rfl ?_
  refine zV_icmp_eq (tgt := 534) O dL_law_529 (by decide) (fun hc => ?_) (fun hc => ?_)
  · replace hM := hM.1 hc
    refine zV_iload O dL_law_534 rfl ?_
    refine zV_if_ne (tgt := 551) O dL_law_536 (by decide) (fun hc => ?_) (fun hc => ?_)
    · replace hM := hM.1 hc
      refine zV_goto (tgt := 2046) O dL_law_551 (by decide) ?_
      refine zV_sub (ls2 := [some (aA (b + 1)), some (aR 169), some (aR 185), some (aR 197), some (aI v4), none, none, none, none]) ⟨rfl, rfl, rfl, rfl, rfl, trivial⟩ ?_
      exact hK _ _ _ _ (by omega) (by omega) hM
    · replace hM := hM.2 hc
      refine zV_aload_n O dL_law_539 rfl rfl ?_
      refine zV_iconst (z := 0) O ⟨by omega, by omega⟩ dL_law_540 ?_
      obtain ⟨hc, hM⟩ := hM
      refine zV_lald O zt_197 (by decide) hc dL_law_541 ?_
      refine zV_iload O dL_law_542 rfl ?_
      refine zV_i2l O dL_law_544 ?_
      refine zV_lcmp O dL_law_545 ?_
      refine zV_if_eq (tgt := 551) O dL_law_546 (by decide) (fun hc => ?_) (fun hc => ?_)
      · replace hM := hM.1 hc
        refine zV_goto (tgt := 2046) O dL_law_551 (by decide) ?_
        refine zV_sub (ls2 := [some (aA (b + 1)), some (aR 169), some (aR 185), some (aR 197), some (aI v4), none, none, none, none]) ⟨rfl, rfl, rfl, rfl, rfl, trivial⟩ ?_
        exact hK _ _ _ _ (by omega) (by omega) hM
      · replace hM := hM.2 hc
        refine zV_iconst (z := 0) O ⟨by omega, by omega⟩ dL_law_549 ?_
        exact zV_zret O rfl (Or.inl rfl) ⟨_, rfl, (Or.inl rfl), hM⟩ (by first | exact Nat.le_of_ble_eq_true rfl | (show _ ≤ 601024; omega) | (show _ ≤ 7293034; omega)) (by first | exact Nat.le_of_ble_eq_true rfl | (show _ ≤ 601024; omega) | (show _ ≤ 7293034; omega)) dL_law_550
  · replace hM := hM.2 hc
    refine zV_iconst (z := 0) O ⟨by omega, by omega⟩ dL_law_532 ?_
    exact zV_zret O rfl (Or.inl rfl) ⟨_, rfl, (Or.inl rfl), hM⟩ (by first | exact Nat.le_of_ble_eq_true rfl | (show _ ≤ 601024; omega) | (show _ ≤ 7293034; omega)) (by first | exact Nat.le_of_ble_eq_true rfl | (show _ ≤ 601024; omega) | (show _ ≤ 7293034; omega)) dL_law_533
def mW_6 (sc : Int → Int) (L : Int) (Q : Int → Hp → Prop) (K : Int → Hp → Prop) (v4 : Int) (h : Hp) : Prop := (zr (v4 + 1) ∧ (((0 : Int) ≤ (v4 + 1) ∧ (v4 + 1) < L) ∧ (zr (v4 + 2) ∧ (((0 : Int) ≤ (v4 + 2) ∧ (v4 + 2) < L) ∧ (mL_holder (sc (v4 + 1)) (sc (v4 + 2)) h (fun z1 h2 => (zr (v4 + 1) ∧ (((0 : Int) ≤ (v4 + 1) ∧ (v4 + 1) < L) ∧ (zr (v4 + 2) ∧ (((0 : Int) ≤ (v4 + 2) ∧ (v4 + 2) < L) ∧ (mX8_holder (sc (v4 + 1)) (sc (v4 + 2)) h2 (fun z3 h4 => (mX8_thrown h4 (fun z5 => ((z5 = z1 → ((¬ z1 = 0 → (K v4 h4)) ∧ (z1 = 0 → (((0 : Int) ≤ 0 ∧ (0 : Int) < 1) ∧ (((zlcmp (rd h4 197 0) z3) = 0 → (K v4 h4)) ∧ (¬ (zlcmp (rd h4 197 0) z3) = 0 → (Q 0 h4))))))) ∧ (¬ z5 = z1 → (Q 0 h4)))))))))))))))))
set_option maxHeartbeats 4000000 in
set_option maxRecDepth 100000 in
theorem sW_6 {l0 : Launch} {a : ZC} {b : Nat} {L : Int} {sc : Int → Int} {Q : Int → Hp → Prop} {K : Int → Hp → Prop} {k n : Nat} {v4 : Int} {h : Hp} (O : zOk l0 a cL_law RL 9 (some .boolean) 198 []) (hS : zScr a b L sc) (hk : k ≤ 600000) (hn : n ≤ 7200000) (hK : ∀ (k2 n2 : Nat) (v4 : Int) (h : Hp), k2 ≤ k + 1 → n2 ≤ n + 6 → K v4 h → zV a (2048, 601024, 7293034, (qZ Q), xN) k2 n2 2046 [some (aA (b + 1)), some (aR 169), some (aR 185), some (aR 197), some (aI v4), none, none, none, none] [] h) (hM : mW_6 sc L Q K v4 h) : zV a (2048, 601024, 7293034, (qZ Q), xN) k n 554 [some (aA (b + 1)), some (aR 169), some (aR 185), some (aR 197), some (aI v4), none, none, none, none] [] h := by
  unfold mW_6 at hM
  refine zV_aload_n O dL_law_554 rfl rfl ?_
  refine zV_aload_n O dL_law_555 rfl rfl ?_
  refine zV_iload O dL_law_556 rfl ?_
  refine zV_iconst (z := 1) O ⟨by omega, by omega⟩ dL_law_558 ?_
  obtain ⟨hc, hM⟩ := hM
  refine zV_iadd O dL_law_559 hc ?_
  obtain ⟨hc, hM⟩ := hM
  refine zV_sld O hS hc dL_law_560 ?_
  refine zV_aload_n O dL_law_561 rfl rfl ?_
  refine zV_iload O dL_law_562 rfl ?_
  refine zV_iconst (z := 2) O ⟨by omega, by omega⟩ dL_law_564 ?_
  obtain ⟨hc, hM⟩ := hM
  refine zV_iadd O dL_law_565 hc ?_
  obtain ⟨hc, hM⟩ := hM
  refine zV_sld O hS hc dL_law_566 ?_
  refine zV_aload_n O dL_law_567 rfl rfl ?_
  refine zV_callSH (as := [aR 169, aI (sc (v4 + 1)), aI (sc (v4 + 2)), aR 197]) (st := []) O zch_L_holder.1 zch_L_holder.2.1 zch_L_holder.2.2.1 zch_L_holder.2.2.2 zl_RL_118 zi_1022 (by first | exact Nat.le_of_ble_eq_true rfl | (show _ ≤ 601024; omega) | (show _ ≤ 7293034; omega)) rfl rfl (by first | exact Nat.le_of_ble_eq_true rfl | (show _ ≤ 601024; omega) | (show _ ≤ 7293034; omega)) (by first | exact Nat.le_of_ble_eq_true rfl | (show _ ≤ 601024; omega) | (show _ ≤ 7293034; omega)) (by first | exact Nat.le_of_ble_eq_true rfl | (show _ ≤ 601024; omega) | (show _ ≤ 7293034; omega)) (by first | exact Nat.le_of_ble_eq_true rfl | (show _ ≤ 601024; omega) | (show _ ≤ 7293034; omega)) (by first | exact Nat.le_of_ble_eq_true rfl | (show _ ≤ 601024; omega) | (show _ ≤ 7293034; omega)) (by first | exact Nat.le_of_ble_eq_true rfl | (show _ ≤ 601024; omega) | (show _ ≤ 7293034; omega)) dL_law_568 (sL_holder hM) (fun r h2 hq => ?_) (fun x h9 hq => hq.elim)
  obtain ⟨z1, rfl, hM⟩ := hq
  refine zV_istore O dL_law_571 (by first | exact Nat.le_of_ble_eq_true rfl | (show _ ≤ 601024; omega) | (show _ ≤ 7293034; omega)) rfl ?_
  refine zV_aload_n O dL_law_573 rfl rfl ?_
  refine zV_aload_n O dL_law_574 rfl rfl ?_
  refine zV_iload O dL_law_575 rfl ?_
  refine zV_iconst (z := 1) O ⟨by omega, by omega⟩ dL_law_577 ?_
  obtain ⟨hc, hM⟩ := hM
  refine zV_iadd O dL_law_578 hc ?_
  obtain ⟨hc, hM⟩ := hM
  refine zV_sld O hS hc dL_law_579 ?_
  refine zV_aload_n O dL_law_580 rfl rfl ?_
  refine zV_iload O dL_law_581 rfl ?_
  refine zV_iconst (z := 2) O ⟨by omega, by omega⟩ dL_law_583 ?_
  obtain ⟨hc, hM⟩ := hM
  refine zV_iadd O dL_law_584 hc ?_
  obtain ⟨hc, hM⟩ := hM
  refine zV_sld O hS hc dL_law_585 ?_
  refine zV_callV (as := [aI (sc (v4 + 1)), aI (sc (v4 + 2))]) (st := []) O zc_X8_holder (Or.inl zl_RL_120) zi_1597 zi_1598 zt_185 rfl rfl (by decide) (by first | exact Nat.le_of_ble_eq_true rfl | (show _ ≤ 601024; omega) | (show _ ≤ 7293034; omega)) rfl rfl (by first | exact Nat.le_of_ble_eq_true rfl | (show _ ≤ 601024; omega) | (show _ ≤ 7293034; omega)) (by first | exact Nat.le_of_ble_eq_true rfl | (show _ ≤ 601024; omega) | (show _ ≤ 7293034; omega)) (by first | exact Nat.le_of_ble_eq_true rfl | (show _ ≤ 601024; omega) | (show _ ≤ 7293034; omega)) (by first | exact Nat.le_of_ble_eq_true rfl | (show _ ≤ 601024; omega) | (show _ ≤ 7293034; omega)) (by first | exact Nat.le_of_ble_eq_true rfl | (show _ ≤ 601024; omega) | (show _ ≤ 7293034; omega)) (by first | exact Nat.le_of_ble_eq_true rfl | (show _ ≤ 601024; omega) | (show _ ≤ 7293034; omega)) dL_law_586 (sX8_holder hM) (fun r h4 hq => ?_) (fun x h9 hq => hq.elim)
  obtain ⟨z3, rfl, hM⟩ := hq
  refine zV_istore O dL_law_589 (by first | exact Nat.le_of_ble_eq_true rfl | (show _ ≤ 601024; omega) | (show _ ≤ 7293034; omega)) rfl ?_
  refine zV_aload_n O dL_law_591 rfl rfl ?_
  refine zV_callV (as := []) (st := []) O zc_X8_thrown (Or.inl zl_RL_100) zi_1295 zi_1296 zt_185 rfl rfl (by decide) (by first | exact Nat.le_of_ble_eq_true rfl | (show _ ≤ 601024; omega) | (show _ ≤ 7293034; omega)) rfl rfl (by first | exact Nat.le_of_ble_eq_true rfl | (show _ ≤ 601024; omega) | (show _ ≤ 7293034; omega)) (by first | exact Nat.le_of_ble_eq_true rfl | (show _ ≤ 601024; omega) | (show _ ≤ 7293034; omega)) (by first | exact Nat.le_of_ble_eq_true rfl | (show _ ≤ 601024; omega) | (show _ ≤ 7293034; omega)) (by first | exact Nat.le_of_ble_eq_true rfl | (show _ ≤ 601024; omega) | (show _ ≤ 7293034; omega)) (by first | exact Nat.le_of_ble_eq_true rfl | (show _ ≤ 601024; omega) | (show _ ≤ 7293034; omega)) (by first | exact Nat.le_of_ble_eq_true rfl | (show _ ≤ 601024; omega) | (show _ ≤ 7293034; omega)) dL_law_592 (sX8_thrown hM) (fun r h9 hq => ?_) (fun x h9 hq => hq.elim)
  obtain ⟨rfl, z5, rfl, hM⟩ := hq
  refine zV_iload O dL_law_595 rfl ?_
  refine zV_icmp_eq (tgt := 602) O dL_law_597 (by decide) (fun hc => ?_) (fun hc => ?_)
  · replace hM := hM.1 hc
    refine zV_iload O dL_law_602 rfl ?_
    refine zV_if_ne (tgt := 619) O dL_law_604 (by decide) (fun hc => ?_) (fun hc => ?_)
    · replace hM := hM.1 hc
      refine zV_goto (tgt := 2046) O dL_law_619 (by decide) ?_
      refine zV_sub (ls2 := [some (aA (b + 1)), some (aR 169), some (aR 185), some (aR 197), some (aI v4), none, none, none, none]) ⟨rfl, rfl, rfl, rfl, rfl, trivial⟩ ?_
      exact hK _ _ _ _ (by omega) (by omega) hM
    · replace hM := hM.2 hc
      refine zV_aload_n O dL_law_607 rfl rfl ?_
      refine zV_iconst (z := 0) O ⟨by omega, by omega⟩ dL_law_608 ?_
      obtain ⟨hc, hM⟩ := hM
      refine zV_lald O zt_197 (by decide) hc dL_law_609 ?_
      refine zV_iload O dL_law_610 rfl ?_
      refine zV_i2l O dL_law_612 ?_
      refine zV_lcmp O dL_law_613 ?_
      refine zV_if_eq (tgt := 619) O dL_law_614 (by decide) (fun hc => ?_) (fun hc => ?_)
      · replace hM := hM.1 hc
        refine zV_goto (tgt := 2046) O dL_law_619 (by decide) ?_
        refine zV_sub (ls2 := [some (aA (b + 1)), some (aR 169), some (aR 185), some (aR 197), some (aI v4), none, none, none, none]) ⟨rfl, rfl, rfl, rfl, rfl, trivial⟩ ?_
        exact hK _ _ _ _ (by omega) (by omega) hM
      · replace hM := hM.2 hc
        refine zV_iconst (z := 0) O ⟨by omega, by omega⟩ dL_law_617 ?_
        exact zV_zret O rfl (Or.inl rfl) ⟨_, rfl, (Or.inl rfl), hM⟩ (by first | exact Nat.le_of_ble_eq_true rfl | (show _ ≤ 601024; omega) | (show _ ≤ 7293034; omega)) (by first | exact Nat.le_of_ble_eq_true rfl | (show _ ≤ 601024; omega) | (show _ ≤ 7293034; omega)) dL_law_618
  · replace hM := hM.2 hc
    refine zV_iconst (z := 0) O ⟨by omega, by omega⟩ dL_law_600 ?_
    exact zV_zret O rfl (Or.inl rfl) ⟨_, rfl, (Or.inl rfl), hM⟩ (by first | exact Nat.le_of_ble_eq_true rfl | (show _ ≤ 601024; omega) | (show _ ≤ 7293034; omega)) (by first | exact Nat.le_of_ble_eq_true rfl | (show _ ≤ 601024; omega) | (show _ ≤ 7293034; omega)) dL_law_601
def mW_7 (sc : Int → Int) (L : Int) (Q : Int → Hp → Prop) (K : Int → Hp → Prop) (v4 : Int) (h : Hp) : Prop := (zr (v4 + 1) ∧ (((0 : Int) ≤ (v4 + 1) ∧ (v4 + 1) < L) ∧ (mL_clash (sc (v4 + 1)) h (fun z1 h2 => (zr (v4 + 1) ∧ (((0 : Int) ≤ (v4 + 1) ∧ (v4 + 1) < L) ∧ (mX8_clash (sc (v4 + 1)) h2 (fun z3 h4 => (mX8_thrown h4 (fun z5 => ((z5 = z1 → ((¬ z1 = 0 → (K v4 h4)) ∧ (z1 = 0 → (((0 : Int) ≤ 0 ∧ (0 : Int) < 1) ∧ (((zlcmp (rd h4 197 0) z3) = 0 → (K v4 h4)) ∧ (¬ (zlcmp (rd h4 197 0) z3) = 0 → (Q 0 h4))))))) ∧ (¬ z5 = z1 → (Q 0 h4)))))))))))))
set_option maxHeartbeats 4000000 in
set_option maxRecDepth 100000 in
theorem sW_7 {l0 : Launch} {a : ZC} {b : Nat} {L : Int} {sc : Int → Int} {Q : Int → Hp → Prop} {K : Int → Hp → Prop} {k n : Nat} {v4 : Int} {h : Hp} (O : zOk l0 a cL_law RL 9 (some .boolean) 198 []) (hS : zScr a b L sc) (hk : k ≤ 600000) (hn : n ≤ 7200000) (hK : ∀ (k2 n2 : Nat) (v4 : Int) (h : Hp), k2 ≤ k + 1 → n2 ≤ n + 6 → K v4 h → zV a (2048, 601024, 7293034, (qZ Q), xN) k2 n2 2046 [some (aA (b + 1)), some (aR 169), some (aR 185), some (aR 197), some (aI v4), none, none, none, none] [] h) (hM : mW_7 sc L Q K v4 h) : zV a (2048, 601024, 7293034, (qZ Q), xN) k n 622 [some (aA (b + 1)), some (aR 169), some (aR 185), some (aR 197), some (aI v4), none, none, none, none] [] h := by
  unfold mW_7 at hM
  refine zV_aload_n O dL_law_622 rfl rfl ?_
  refine zV_aload_n O dL_law_623 rfl rfl ?_
  refine zV_iload O dL_law_624 rfl ?_
  refine zV_iconst (z := 1) O ⟨by omega, by omega⟩ dL_law_626 ?_
  obtain ⟨hc, hM⟩ := hM
  refine zV_iadd O dL_law_627 hc ?_
  obtain ⟨hc, hM⟩ := hM
  refine zV_sld O hS hc dL_law_628 ?_
  refine zV_aload_n O dL_law_629 rfl rfl ?_
  refine zV_callSH (as := [aR 169, aI (sc (v4 + 1)), aR 197]) (st := []) O zch_L_clash.1 zch_L_clash.2.1 zch_L_clash.2.2.1 zch_L_clash.2.2.2 zl_RL_121 zi_1036 (by first | exact Nat.le_of_ble_eq_true rfl | (show _ ≤ 601024; omega) | (show _ ≤ 7293034; omega)) rfl rfl (by first | exact Nat.le_of_ble_eq_true rfl | (show _ ≤ 601024; omega) | (show _ ≤ 7293034; omega)) (by first | exact Nat.le_of_ble_eq_true rfl | (show _ ≤ 601024; omega) | (show _ ≤ 7293034; omega)) (by first | exact Nat.le_of_ble_eq_true rfl | (show _ ≤ 601024; omega) | (show _ ≤ 7293034; omega)) (by first | exact Nat.le_of_ble_eq_true rfl | (show _ ≤ 601024; omega) | (show _ ≤ 7293034; omega)) (by first | exact Nat.le_of_ble_eq_true rfl | (show _ ≤ 601024; omega) | (show _ ≤ 7293034; omega)) (by first | exact Nat.le_of_ble_eq_true rfl | (show _ ≤ 601024; omega) | (show _ ≤ 7293034; omega)) dL_law_630 (sL_clash hM) (fun r h2 hq => ?_) (fun x h9 hq => hq.elim)
  obtain ⟨z1, rfl, hM⟩ := hq
  refine zV_istore O dL_law_633 (by first | exact Nat.le_of_ble_eq_true rfl | (show _ ≤ 601024; omega) | (show _ ≤ 7293034; omega)) rfl ?_
  refine zV_aload_n O dL_law_635 rfl rfl ?_
  refine zV_aload_n O dL_law_636 rfl rfl ?_
  refine zV_iload O dL_law_637 rfl ?_
  refine zV_iconst (z := 1) O ⟨by omega, by omega⟩ dL_law_639 ?_
  obtain ⟨hc, hM⟩ := hM
  refine zV_iadd O dL_law_640 hc ?_
  obtain ⟨hc, hM⟩ := hM
  refine zV_sld O hS hc dL_law_641 ?_
  refine zV_callV (as := [aI (sc (v4 + 1))]) (st := []) O zc_X8_clash (Or.inl zl_RL_123) zi_1607 zi_1608 zt_185 rfl rfl (by decide) (by first | exact Nat.le_of_ble_eq_true rfl | (show _ ≤ 601024; omega) | (show _ ≤ 7293034; omega)) rfl rfl (by first | exact Nat.le_of_ble_eq_true rfl | (show _ ≤ 601024; omega) | (show _ ≤ 7293034; omega)) (by first | exact Nat.le_of_ble_eq_true rfl | (show _ ≤ 601024; omega) | (show _ ≤ 7293034; omega)) (by first | exact Nat.le_of_ble_eq_true rfl | (show _ ≤ 601024; omega) | (show _ ≤ 7293034; omega)) (by first | exact Nat.le_of_ble_eq_true rfl | (show _ ≤ 601024; omega) | (show _ ≤ 7293034; omega)) (by first | exact Nat.le_of_ble_eq_true rfl | (show _ ≤ 601024; omega) | (show _ ≤ 7293034; omega)) (by first | exact Nat.le_of_ble_eq_true rfl | (show _ ≤ 601024; omega) | (show _ ≤ 7293034; omega)) dL_law_642 (sX8_clash hM) (fun r h4 hq => ?_) (fun x h9 hq => hq.elim)
  obtain ⟨z3, rfl, hM⟩ := hq
  refine zV_istore O dL_law_645 (by first | exact Nat.le_of_ble_eq_true rfl | (show _ ≤ 601024; omega) | (show _ ≤ 7293034; omega)) rfl ?_
  refine zV_aload_n O dL_law_647 rfl rfl ?_
  refine zV_callV (as := []) (st := []) O zc_X8_thrown (Or.inl zl_RL_100) zi_1295 zi_1296 zt_185 rfl rfl (by decide) (by first | exact Nat.le_of_ble_eq_true rfl | (show _ ≤ 601024; omega) | (show _ ≤ 7293034; omega)) rfl rfl (by first | exact Nat.le_of_ble_eq_true rfl | (show _ ≤ 601024; omega) | (show _ ≤ 7293034; omega)) (by first | exact Nat.le_of_ble_eq_true rfl | (show _ ≤ 601024; omega) | (show _ ≤ 7293034; omega)) (by first | exact Nat.le_of_ble_eq_true rfl | (show _ ≤ 601024; omega) | (show _ ≤ 7293034; omega)) (by first | exact Nat.le_of_ble_eq_true rfl | (show _ ≤ 601024; omega) | (show _ ≤ 7293034; omega)) (by first | exact Nat.le_of_ble_eq_true rfl | (show _ ≤ 601024; omega) | (show _ ≤ 7293034; omega)) (by first | exact Nat.le_of_ble_eq_true rfl | (show _ ≤ 601024; omega) | (show _ ≤ 7293034; omega)) dL_law_648 (sX8_thrown hM) (fun r h9 hq => ?_) (fun x h9 hq => hq.elim)
  obtain ⟨rfl, z5, rfl, hM⟩ := hq
  refine zV_iload O dL_law_651 rfl ?_
  refine zV_icmp_eq (tgt := 658) O dL_law_653 (by decide) (fun hc => ?_) (fun hc => ?_)
  · replace hM := hM.1 hc
    refine zV_iload O dL_law_658 rfl ?_
    refine zV_if_ne (tgt := 675) O dL_law_660 (by decide) (fun hc => ?_) (fun hc => ?_)
    · replace hM := hM.1 hc
      refine zV_goto (tgt := 2046) O dL_law_675 (by decide) ?_
      refine zV_sub (ls2 := [some (aA (b + 1)), some (aR 169), some (aR 185), some (aR 197), some (aI v4), none, none, none, none]) ⟨rfl, rfl, rfl, rfl, rfl, trivial⟩ ?_
      exact hK _ _ _ _ (by omega) (by omega) hM
    · replace hM := hM.2 hc
      refine zV_aload_n O dL_law_663 rfl rfl ?_
      refine zV_iconst (z := 0) O ⟨by omega, by omega⟩ dL_law_664 ?_
      obtain ⟨hc, hM⟩ := hM
      refine zV_lald O zt_197 (by decide) hc dL_law_665 ?_
      refine zV_iload O dL_law_666 rfl ?_
      refine zV_i2l O dL_law_668 ?_
      refine zV_lcmp O dL_law_669 ?_
      refine zV_if_eq (tgt := 675) O dL_law_670 (by decide) (fun hc => ?_) (fun hc => ?_)
      · replace hM := hM.1 hc
        refine zV_goto (tgt := 2046) O dL_law_675 (by decide) ?_
        refine zV_sub (ls2 := [some (aA (b + 1)), some (aR 169), some (aR 185), some (aR 197), some (aI v4), none, none, none, none]) ⟨rfl, rfl, rfl, rfl, rfl, trivial⟩ ?_
        exact hK _ _ _ _ (by omega) (by omega) hM
      · replace hM := hM.2 hc
        refine zV_iconst (z := 0) O ⟨by omega, by omega⟩ dL_law_673 ?_
        exact zV_zret O rfl (Or.inl rfl) ⟨_, rfl, (Or.inl rfl), hM⟩ (by first | exact Nat.le_of_ble_eq_true rfl | (show _ ≤ 601024; omega) | (show _ ≤ 7293034; omega)) (by first | exact Nat.le_of_ble_eq_true rfl | (show _ ≤ 601024; omega) | (show _ ≤ 7293034; omega)) dL_law_674
  · replace hM := hM.2 hc
    refine zV_iconst (z := 0) O ⟨by omega, by omega⟩ dL_law_656 ?_
    exact zV_zret O rfl (Or.inl rfl) ⟨_, rfl, (Or.inl rfl), hM⟩ (by first | exact Nat.le_of_ble_eq_true rfl | (show _ ≤ 601024; omega) | (show _ ≤ 7293034; omega)) (by first | exact Nat.le_of_ble_eq_true rfl | (show _ ≤ 601024; omega) | (show _ ≤ 7293034; omega)) dL_law_657
def mW_8 (sc : Int → Int) (L : Int) (Q : Int → Hp → Prop) (K : Int → Hp → Prop) (v4 : Int) (h : Hp) : Prop := (zr (v4 + 1) ∧ (((0 : Int) ≤ (v4 + 1) ∧ (v4 + 1) < L) ∧ (mL_plans (sc (v4 + 1)) h (fun z1 h2 => (zr (v4 + 1) ∧ (((0 : Int) ≤ (v4 + 1) ∧ (v4 + 1) < L) ∧ (mX8_plans (sc (v4 + 1)) h2 (fun z3 h4 => (mX8_thrown h4 (fun z5 => ((z5 = z1 → ((¬ z1 = 0 → (K v4 h4)) ∧ (z1 = 0 → (((0 : Int) ≤ 0 ∧ (0 : Int) < 1) ∧ (((zlcmp (rd h4 197 0) z3) = 0 → (K v4 h4)) ∧ (¬ (zlcmp (rd h4 197 0) z3) = 0 → (Q 0 h4))))))) ∧ (¬ z5 = z1 → (Q 0 h4)))))))))))))
set_option maxHeartbeats 4000000 in
set_option maxRecDepth 100000 in
theorem sW_8 {l0 : Launch} {a : ZC} {b : Nat} {L : Int} {sc : Int → Int} {Q : Int → Hp → Prop} {K : Int → Hp → Prop} {k n : Nat} {v4 : Int} {h : Hp} (O : zOk l0 a cL_law RL 9 (some .boolean) 198 []) (hS : zScr a b L sc) (hk : k ≤ 600000) (hn : n ≤ 7200000) (hK : ∀ (k2 n2 : Nat) (v4 : Int) (h : Hp), k2 ≤ k + 1 → n2 ≤ n + 6 → K v4 h → zV a (2048, 601024, 7293034, (qZ Q), xN) k2 n2 2046 [some (aA (b + 1)), some (aR 169), some (aR 185), some (aR 197), some (aI v4), none, none, none, none] [] h) (hM : mW_8 sc L Q K v4 h) : zV a (2048, 601024, 7293034, (qZ Q), xN) k n 678 [some (aA (b + 1)), some (aR 169), some (aR 185), some (aR 197), some (aI v4), none, none, none, none] [] h := by
  unfold mW_8 at hM
  refine zV_aload_n O dL_law_678 rfl rfl ?_
  refine zV_aload_n O dL_law_679 rfl rfl ?_
  refine zV_iload O dL_law_680 rfl ?_
  refine zV_iconst (z := 1) O ⟨by omega, by omega⟩ dL_law_682 ?_
  obtain ⟨hc, hM⟩ := hM
  refine zV_iadd O dL_law_683 hc ?_
  obtain ⟨hc, hM⟩ := hM
  refine zV_sld O hS hc dL_law_684 ?_
  refine zV_aload_n O dL_law_685 rfl rfl ?_
  refine zV_callSH (as := [aR 169, aI (sc (v4 + 1)), aR 197]) (st := []) O zch_L_plans.1 zch_L_plans.2.1 zch_L_plans.2.2.1 zch_L_plans.2.2.2 zl_RL_124 zi_1047 (by first | exact Nat.le_of_ble_eq_true rfl | (show _ ≤ 601024; omega) | (show _ ≤ 7293034; omega)) rfl rfl (by first | exact Nat.le_of_ble_eq_true rfl | (show _ ≤ 601024; omega) | (show _ ≤ 7293034; omega)) (by first | exact Nat.le_of_ble_eq_true rfl | (show _ ≤ 601024; omega) | (show _ ≤ 7293034; omega)) (by first | exact Nat.le_of_ble_eq_true rfl | (show _ ≤ 601024; omega) | (show _ ≤ 7293034; omega)) (by first | exact Nat.le_of_ble_eq_true rfl | (show _ ≤ 601024; omega) | (show _ ≤ 7293034; omega)) (by first | exact Nat.le_of_ble_eq_true rfl | (show _ ≤ 601024; omega) | (show _ ≤ 7293034; omega)) (by first | exact Nat.le_of_ble_eq_true rfl | (show _ ≤ 601024; omega) | (show _ ≤ 7293034; omega)) dL_law_686 (sL_plans hM) (fun r h2 hq => ?_) (fun x h9 hq => hq.elim)
  obtain ⟨z1, rfl, hM⟩ := hq
  refine zV_istore O dL_law_689 (by first | exact Nat.le_of_ble_eq_true rfl | (show _ ≤ 601024; omega) | (show _ ≤ 7293034; omega)) rfl ?_
  refine zV_aload_n O dL_law_691 rfl rfl ?_
  refine zV_aload_n O dL_law_692 rfl rfl ?_
  refine zV_iload O dL_law_693 rfl ?_
  refine zV_iconst (z := 1) O ⟨by omega, by omega⟩ dL_law_695 ?_
  obtain ⟨hc, hM⟩ := hM
  refine zV_iadd O dL_law_696 hc ?_
  obtain ⟨hc, hM⟩ := hM
  refine zV_sld O hS hc dL_law_697 ?_
  refine zV_callV (as := [aI (sc (v4 + 1))]) (st := []) O zc_X8_plans (Or.inl zl_RL_126) zi_1611 zi_1612 zt_185 rfl rfl (by decide) (by first | exact Nat.le_of_ble_eq_true rfl | (show _ ≤ 601024; omega) | (show _ ≤ 7293034; omega)) rfl rfl (by first | exact Nat.le_of_ble_eq_true rfl | (show _ ≤ 601024; omega) | (show _ ≤ 7293034; omega)) (by first | exact Nat.le_of_ble_eq_true rfl | (show _ ≤ 601024; omega) | (show _ ≤ 7293034; omega)) (by first | exact Nat.le_of_ble_eq_true rfl | (show _ ≤ 601024; omega) | (show _ ≤ 7293034; omega)) (by first | exact Nat.le_of_ble_eq_true rfl | (show _ ≤ 601024; omega) | (show _ ≤ 7293034; omega)) (by first | exact Nat.le_of_ble_eq_true rfl | (show _ ≤ 601024; omega) | (show _ ≤ 7293034; omega)) (by first | exact Nat.le_of_ble_eq_true rfl | (show _ ≤ 601024; omega) | (show _ ≤ 7293034; omega)) dL_law_698 (sX8_plans hM) (fun r h4 hq => ?_) (fun x h9 hq => hq.elim)
  obtain ⟨z3, rfl, hM⟩ := hq
  refine zV_istore O dL_law_701 (by first | exact Nat.le_of_ble_eq_true rfl | (show _ ≤ 601024; omega) | (show _ ≤ 7293034; omega)) rfl ?_
  refine zV_aload_n O dL_law_703 rfl rfl ?_
  refine zV_callV (as := []) (st := []) O zc_X8_thrown (Or.inl zl_RL_100) zi_1295 zi_1296 zt_185 rfl rfl (by decide) (by first | exact Nat.le_of_ble_eq_true rfl | (show _ ≤ 601024; omega) | (show _ ≤ 7293034; omega)) rfl rfl (by first | exact Nat.le_of_ble_eq_true rfl | (show _ ≤ 601024; omega) | (show _ ≤ 7293034; omega)) (by first | exact Nat.le_of_ble_eq_true rfl | (show _ ≤ 601024; omega) | (show _ ≤ 7293034; omega)) (by first | exact Nat.le_of_ble_eq_true rfl | (show _ ≤ 601024; omega) | (show _ ≤ 7293034; omega)) (by first | exact Nat.le_of_ble_eq_true rfl | (show _ ≤ 601024; omega) | (show _ ≤ 7293034; omega)) (by first | exact Nat.le_of_ble_eq_true rfl | (show _ ≤ 601024; omega) | (show _ ≤ 7293034; omega)) (by first | exact Nat.le_of_ble_eq_true rfl | (show _ ≤ 601024; omega) | (show _ ≤ 7293034; omega)) dL_law_704 (sX8_thrown hM) (fun r h9 hq => ?_) (fun x h9 hq => hq.elim)
  obtain ⟨rfl, z5, rfl, hM⟩ := hq
  refine zV_iload O dL_law_707 rfl ?_
  refine zV_icmp_eq (tgt := 714) O dL_law_709 (by decide) (fun hc => ?_) (fun hc => ?_)
  · replace hM := hM.1 hc
    refine zV_iload O dL_law_714 rfl ?_
    refine zV_if_ne (tgt := 731) O dL_law_716 (by decide) (fun hc => ?_) (fun hc => ?_)
    · replace hM := hM.1 hc
      refine zV_goto (tgt := 2046) O dL_law_731 (by decide) ?_
      refine zV_sub (ls2 := [some (aA (b + 1)), some (aR 169), some (aR 185), some (aR 197), some (aI v4), none, none, none, none]) ⟨rfl, rfl, rfl, rfl, rfl, trivial⟩ ?_
      exact hK _ _ _ _ (by omega) (by omega) hM
    · replace hM := hM.2 hc
      refine zV_aload_n O dL_law_719 rfl rfl ?_
      refine zV_iconst (z := 0) O ⟨by omega, by omega⟩ dL_law_720 ?_
      obtain ⟨hc, hM⟩ := hM
      refine zV_lald O zt_197 (by decide) hc dL_law_721 ?_
      refine zV_iload O dL_law_722 rfl ?_
      refine zV_i2l O dL_law_724 ?_
      refine zV_lcmp O dL_law_725 ?_
      refine zV_if_eq (tgt := 731) O dL_law_726 (by decide) (fun hc => ?_) (fun hc => ?_)
      · replace hM := hM.1 hc
        refine zV_goto (tgt := 2046) O dL_law_731 (by decide) ?_
        refine zV_sub (ls2 := [some (aA (b + 1)), some (aR 169), some (aR 185), some (aR 197), some (aI v4), none, none, none, none]) ⟨rfl, rfl, rfl, rfl, rfl, trivial⟩ ?_
        exact hK _ _ _ _ (by omega) (by omega) hM
      · replace hM := hM.2 hc
        refine zV_iconst (z := 0) O ⟨by omega, by omega⟩ dL_law_729 ?_
        exact zV_zret O rfl (Or.inl rfl) ⟨_, rfl, (Or.inl rfl), hM⟩ (by first | exact Nat.le_of_ble_eq_true rfl | (show _ ≤ 601024; omega) | (show _ ≤ 7293034; omega)) (by first | exact Nat.le_of_ble_eq_true rfl | (show _ ≤ 601024; omega) | (show _ ≤ 7293034; omega)) dL_law_730
  · replace hM := hM.2 hc
    refine zV_iconst (z := 0) O ⟨by omega, by omega⟩ dL_law_712 ?_
    exact zV_zret O rfl (Or.inl rfl) ⟨_, rfl, (Or.inl rfl), hM⟩ (by first | exact Nat.le_of_ble_eq_true rfl | (show _ ≤ 601024; omega) | (show _ ≤ 7293034; omega)) (by first | exact Nat.le_of_ble_eq_true rfl | (show _ ≤ 601024; omega) | (show _ ≤ 7293034; omega)) dL_law_713
def mW_9 (sc : Int → Int) (L : Int) (Q : Int → Hp → Prop) (K : Int → Hp → Prop) (v4 : Int) (h : Hp) : Prop := (zr (v4 + 1) ∧ (((0 : Int) ≤ (v4 + 1) ∧ (v4 + 1) < L) ∧ (zr (v4 + 2) ∧ (((0 : Int) ≤ (v4 + 2) ∧ (v4 + 2) < L) ∧ (mL_rule (sc (v4 + 1)) (sc (v4 + 2)) h (fun z1 h2 => (zr (v4 + 1) ∧ (((0 : Int) ≤ (v4 + 1) ∧ (v4 + 1) < L) ∧ (zr (v4 + 2) ∧ (((0 : Int) ≤ (v4 + 2) ∧ (v4 + 2) < L) ∧ (mX8_rule (sc (v4 + 1)) (sc (v4 + 2)) h2 (fun z3 h4 => (mX8_thrown h4 (fun z5 => ((z5 = z1 → ((¬ z1 = 0 → (K v4 h4)) ∧ (z1 = 0 → (((0 : Int) ≤ 0 ∧ (0 : Int) < 1) ∧ (((zlcmp (rd h4 197 0) z3) = 0 → (K v4 h4)) ∧ (¬ (zlcmp (rd h4 197 0) z3) = 0 → (Q 0 h4))))))) ∧ (¬ z5 = z1 → (Q 0 h4)))))))))))))))))
set_option maxHeartbeats 4000000 in
set_option maxRecDepth 100000 in
theorem sW_9 {l0 : Launch} {a : ZC} {b : Nat} {L : Int} {sc : Int → Int} {Q : Int → Hp → Prop} {K : Int → Hp → Prop} {k n : Nat} {v4 : Int} {h : Hp} (O : zOk l0 a cL_law RL 9 (some .boolean) 198 []) (hS : zScr a b L sc) (hk : k ≤ 600000) (hn : n ≤ 7200000) (hK : ∀ (k2 n2 : Nat) (v4 : Int) (h : Hp), k2 ≤ k + 1 → n2 ≤ n + 6 → K v4 h → zV a (2048, 601024, 7293034, (qZ Q), xN) k2 n2 2046 [some (aA (b + 1)), some (aR 169), some (aR 185), some (aR 197), some (aI v4), none, none, none, none] [] h) (hM : mW_9 sc L Q K v4 h) : zV a (2048, 601024, 7293034, (qZ Q), xN) k n 734 [some (aA (b + 1)), some (aR 169), some (aR 185), some (aR 197), some (aI v4), none, none, none, none] [] h := by
  unfold mW_9 at hM
  refine zV_aload_n O dL_law_734 rfl rfl ?_
  refine zV_aload_n O dL_law_735 rfl rfl ?_
  refine zV_iload O dL_law_736 rfl ?_
  refine zV_iconst (z := 1) O ⟨by omega, by omega⟩ dL_law_738 ?_
  obtain ⟨hc, hM⟩ := hM
  refine zV_iadd O dL_law_739 hc ?_
  obtain ⟨hc, hM⟩ := hM
  refine zV_sld O hS hc dL_law_740 ?_
  refine zV_aload_n O dL_law_741 rfl rfl ?_
  refine zV_iload O dL_law_742 rfl ?_
  refine zV_iconst (z := 2) O ⟨by omega, by omega⟩ dL_law_744 ?_
  obtain ⟨hc, hM⟩ := hM
  refine zV_iadd O dL_law_745 hc ?_
  obtain ⟨hc, hM⟩ := hM
  refine zV_sld O hS hc dL_law_746 ?_
  refine zV_aload_n O dL_law_747 rfl rfl ?_
  refine zV_callSH (as := [aR 169, aI (sc (v4 + 1)), aI (sc (v4 + 2)), aR 197]) (st := []) O zch_L_rule.1 zch_L_rule.2.1 zch_L_rule.2.2.1 zch_L_rule.2.2.2 zl_RL_127 zi_1058 (by first | exact Nat.le_of_ble_eq_true rfl | (show _ ≤ 601024; omega) | (show _ ≤ 7293034; omega)) rfl rfl (by first | exact Nat.le_of_ble_eq_true rfl | (show _ ≤ 601024; omega) | (show _ ≤ 7293034; omega)) (by first | exact Nat.le_of_ble_eq_true rfl | (show _ ≤ 601024; omega) | (show _ ≤ 7293034; omega)) (by first | exact Nat.le_of_ble_eq_true rfl | (show _ ≤ 601024; omega) | (show _ ≤ 7293034; omega)) (by first | exact Nat.le_of_ble_eq_true rfl | (show _ ≤ 601024; omega) | (show _ ≤ 7293034; omega)) (by first | exact Nat.le_of_ble_eq_true rfl | (show _ ≤ 601024; omega) | (show _ ≤ 7293034; omega)) (by first | exact Nat.le_of_ble_eq_true rfl | (show _ ≤ 601024; omega) | (show _ ≤ 7293034; omega)) dL_law_748 (sL_rule hM) (fun r h2 hq => ?_) (fun x h9 hq => hq.elim)
  obtain ⟨z1, rfl, hM⟩ := hq
  refine zV_istore O dL_law_751 (by first | exact Nat.le_of_ble_eq_true rfl | (show _ ≤ 601024; omega) | (show _ ≤ 7293034; omega)) rfl ?_
  refine zV_aload_n O dL_law_753 rfl rfl ?_
  refine zV_aload_n O dL_law_754 rfl rfl ?_
  refine zV_iload O dL_law_755 rfl ?_
  refine zV_iconst (z := 1) O ⟨by omega, by omega⟩ dL_law_757 ?_
  obtain ⟨hc, hM⟩ := hM
  refine zV_iadd O dL_law_758 hc ?_
  obtain ⟨hc, hM⟩ := hM
  refine zV_sld O hS hc dL_law_759 ?_
  refine zV_aload_n O dL_law_760 rfl rfl ?_
  refine zV_iload O dL_law_761 rfl ?_
  refine zV_iconst (z := 2) O ⟨by omega, by omega⟩ dL_law_763 ?_
  obtain ⟨hc, hM⟩ := hM
  refine zV_iadd O dL_law_764 hc ?_
  obtain ⟨hc, hM⟩ := hM
  refine zV_sld O hS hc dL_law_765 ?_
  refine zV_callV (as := [aI (sc (v4 + 1)), aI (sc (v4 + 2))]) (st := []) O zc_X8_rule (Or.inl zl_RL_129) zi_1618 zi_1619 zt_185 rfl rfl (by decide) (by first | exact Nat.le_of_ble_eq_true rfl | (show _ ≤ 601024; omega) | (show _ ≤ 7293034; omega)) rfl rfl (by first | exact Nat.le_of_ble_eq_true rfl | (show _ ≤ 601024; omega) | (show _ ≤ 7293034; omega)) (by first | exact Nat.le_of_ble_eq_true rfl | (show _ ≤ 601024; omega) | (show _ ≤ 7293034; omega)) (by first | exact Nat.le_of_ble_eq_true rfl | (show _ ≤ 601024; omega) | (show _ ≤ 7293034; omega)) (by first | exact Nat.le_of_ble_eq_true rfl | (show _ ≤ 601024; omega) | (show _ ≤ 7293034; omega)) (by first | exact Nat.le_of_ble_eq_true rfl | (show _ ≤ 601024; omega) | (show _ ≤ 7293034; omega)) (by first | exact Nat.le_of_ble_eq_true rfl | (show _ ≤ 601024; omega) | (show _ ≤ 7293034; omega)) dL_law_766 (sX8_rule hM) (fun r h4 hq => ?_) (fun x h9 hq => hq.elim)
  obtain ⟨z3, rfl, hM⟩ := hq
  refine zV_istore O dL_law_769 (by first | exact Nat.le_of_ble_eq_true rfl | (show _ ≤ 601024; omega) | (show _ ≤ 7293034; omega)) rfl ?_
  refine zV_aload_n O dL_law_771 rfl rfl ?_
  refine zV_callV (as := []) (st := []) O zc_X8_thrown (Or.inl zl_RL_100) zi_1295 zi_1296 zt_185 rfl rfl (by decide) (by first | exact Nat.le_of_ble_eq_true rfl | (show _ ≤ 601024; omega) | (show _ ≤ 7293034; omega)) rfl rfl (by first | exact Nat.le_of_ble_eq_true rfl | (show _ ≤ 601024; omega) | (show _ ≤ 7293034; omega)) (by first | exact Nat.le_of_ble_eq_true rfl | (show _ ≤ 601024; omega) | (show _ ≤ 7293034; omega)) (by first | exact Nat.le_of_ble_eq_true rfl | (show _ ≤ 601024; omega) | (show _ ≤ 7293034; omega)) (by first | exact Nat.le_of_ble_eq_true rfl | (show _ ≤ 601024; omega) | (show _ ≤ 7293034; omega)) (by first | exact Nat.le_of_ble_eq_true rfl | (show _ ≤ 601024; omega) | (show _ ≤ 7293034; omega)) (by first | exact Nat.le_of_ble_eq_true rfl | (show _ ≤ 601024; omega) | (show _ ≤ 7293034; omega)) dL_law_772 (sX8_thrown hM) (fun r h9 hq => ?_) (fun x h9 hq => hq.elim)
  obtain ⟨rfl, z5, rfl, hM⟩ := hq
  refine zV_iload O dL_law_775 rfl ?_
  refine zV_icmp_eq (tgt := 782) O dL_law_777 (by decide) (fun hc => ?_) (fun hc => ?_)
  · replace hM := hM.1 hc
    refine zV_iload O dL_law_782 rfl ?_
    refine zV_if_ne (tgt := 799) O dL_law_784 (by decide) (fun hc => ?_) (fun hc => ?_)
    · replace hM := hM.1 hc
      refine zV_goto (tgt := 2046) O dL_law_799 (by decide) ?_
      refine zV_sub (ls2 := [some (aA (b + 1)), some (aR 169), some (aR 185), some (aR 197), some (aI v4), none, none, none, none]) ⟨rfl, rfl, rfl, rfl, rfl, trivial⟩ ?_
      exact hK _ _ _ _ (by omega) (by omega) hM
    · replace hM := hM.2 hc
      refine zV_aload_n O dL_law_787 rfl rfl ?_
      refine zV_iconst (z := 0) O ⟨by omega, by omega⟩ dL_law_788 ?_
      obtain ⟨hc, hM⟩ := hM
      refine zV_lald O zt_197 (by decide) hc dL_law_789 ?_
      refine zV_iload O dL_law_790 rfl ?_
      refine zV_i2l O dL_law_792 ?_
      refine zV_lcmp O dL_law_793 ?_
      refine zV_if_eq (tgt := 799) O dL_law_794 (by decide) (fun hc => ?_) (fun hc => ?_)
      · replace hM := hM.1 hc
        refine zV_goto (tgt := 2046) O dL_law_799 (by decide) ?_
        refine zV_sub (ls2 := [some (aA (b + 1)), some (aR 169), some (aR 185), some (aR 197), some (aI v4), none, none, none, none]) ⟨rfl, rfl, rfl, rfl, rfl, trivial⟩ ?_
        exact hK _ _ _ _ (by omega) (by omega) hM
      · replace hM := hM.2 hc
        refine zV_iconst (z := 0) O ⟨by omega, by omega⟩ dL_law_797 ?_
        exact zV_zret O rfl (Or.inl rfl) ⟨_, rfl, (Or.inl rfl), hM⟩ (by first | exact Nat.le_of_ble_eq_true rfl | (show _ ≤ 601024; omega) | (show _ ≤ 7293034; omega)) (by first | exact Nat.le_of_ble_eq_true rfl | (show _ ≤ 601024; omega) | (show _ ≤ 7293034; omega)) dL_law_798
  · replace hM := hM.2 hc
    refine zV_iconst (z := 0) O ⟨by omega, by omega⟩ dL_law_780 ?_
    exact zV_zret O rfl (Or.inl rfl) ⟨_, rfl, (Or.inl rfl), hM⟩ (by first | exact Nat.le_of_ble_eq_true rfl | (show _ ≤ 601024; omega) | (show _ ≤ 7293034; omega)) (by first | exact Nat.le_of_ble_eq_true rfl | (show _ ≤ 601024; omega) | (show _ ≤ 7293034; omega)) dL_law_781
def mW_10 (sc : Int → Int) (L : Int) (Q : Int → Hp → Prop) (K : Int → Hp → Prop) (v4 : Int) (h : Hp) : Prop := (zr (v4 + 1) ∧ (((0 : Int) ≤ (v4 + 1) ∧ (v4 + 1) < L) ∧ (zr (v4 + 2) ∧ (((0 : Int) ≤ (v4 + 2) ∧ (v4 + 2) < L) ∧ (zr (v4 + 3) ∧ (((0 : Int) ≤ (v4 + 3) ∧ (v4 + 3) < L) ∧ (mL_decides (sc (v4 + 1)) (sc (v4 + 2)) (sc (v4 + 3)) h (fun z1 h2 => (zr (v4 + 1) ∧ (((0 : Int) ≤ (v4 + 1) ∧ (v4 + 1) < L) ∧ (zr (v4 + 2) ∧ (((0 : Int) ≤ (v4 + 2) ∧ (v4 + 2) < L) ∧ (zr (v4 + 3) ∧ (((0 : Int) ≤ (v4 + 3) ∧ (v4 + 3) < L) ∧ (mX8_decides (sc (v4 + 1)) (sc (v4 + 2)) (sc (v4 + 3)) h2 (fun z3 h4 => (mX8_thrown h4 (fun z5 => ((z5 = z1 → ((¬ z1 = 0 → (K v4 h4)) ∧ (z1 = 0 → (((0 : Int) ≤ 0 ∧ (0 : Int) < 1) ∧ (((zlcmp (rd h4 197 0) z3) = 0 → (K v4 h4)) ∧ (¬ (zlcmp (rd h4 197 0) z3) = 0 → (Q 0 h4))))))) ∧ (¬ z5 = z1 → (Q 0 h4)))))))))))))))))))))
set_option maxHeartbeats 4000000 in
set_option maxRecDepth 100000 in
theorem sW_10 {l0 : Launch} {a : ZC} {b : Nat} {L : Int} {sc : Int → Int} {Q : Int → Hp → Prop} {K : Int → Hp → Prop} {k n : Nat} {v4 : Int} {h : Hp} (O : zOk l0 a cL_law RL 9 (some .boolean) 198 []) (hS : zScr a b L sc) (hk : k ≤ 600000) (hn : n ≤ 7200000) (hK : ∀ (k2 n2 : Nat) (v4 : Int) (h : Hp), k2 ≤ k + 1 → n2 ≤ n + 6 → K v4 h → zV a (2048, 601024, 7293034, (qZ Q), xN) k2 n2 2046 [some (aA (b + 1)), some (aR 169), some (aR 185), some (aR 197), some (aI v4), none, none, none, none] [] h) (hM : mW_10 sc L Q K v4 h) : zV a (2048, 601024, 7293034, (qZ Q), xN) k n 802 [some (aA (b + 1)), some (aR 169), some (aR 185), some (aR 197), some (aI v4), none, none, none, none] [] h := by
  unfold mW_10 at hM
  refine zV_aload_n O dL_law_802 rfl rfl ?_
  refine zV_aload_n O dL_law_803 rfl rfl ?_
  refine zV_iload O dL_law_804 rfl ?_
  refine zV_iconst (z := 1) O ⟨by omega, by omega⟩ dL_law_806 ?_
  obtain ⟨hc, hM⟩ := hM
  refine zV_iadd O dL_law_807 hc ?_
  obtain ⟨hc, hM⟩ := hM
  refine zV_sld O hS hc dL_law_808 ?_
  refine zV_aload_n O dL_law_809 rfl rfl ?_
  refine zV_iload O dL_law_810 rfl ?_
  refine zV_iconst (z := 2) O ⟨by omega, by omega⟩ dL_law_812 ?_
  obtain ⟨hc, hM⟩ := hM
  refine zV_iadd O dL_law_813 hc ?_
  obtain ⟨hc, hM⟩ := hM
  refine zV_sld O hS hc dL_law_814 ?_
  refine zV_aload_n O dL_law_815 rfl rfl ?_
  refine zV_iload O dL_law_816 rfl ?_
  refine zV_iconst (z := 3) O ⟨by omega, by omega⟩ dL_law_818 ?_
  obtain ⟨hc, hM⟩ := hM
  refine zV_iadd O dL_law_819 hc ?_
  obtain ⟨hc, hM⟩ := hM
  refine zV_sld O hS hc dL_law_820 ?_
  refine zV_aload_n O dL_law_821 rfl rfl ?_
  refine zV_callSH (as := [aR 169, aI (sc (v4 + 1)), aI (sc (v4 + 2)), aI (sc (v4 + 3)), aR 197]) (st := []) O zch_L_decides.1 zch_L_decides.2.1 zch_L_decides.2.2.1 zch_L_decides.2.2.2 zl_RL_130 zi_1069 (by first | exact Nat.le_of_ble_eq_true rfl | (show _ ≤ 601024; omega) | (show _ ≤ 7293034; omega)) rfl rfl (by first | exact Nat.le_of_ble_eq_true rfl | (show _ ≤ 601024; omega) | (show _ ≤ 7293034; omega)) (by first | exact Nat.le_of_ble_eq_true rfl | (show _ ≤ 601024; omega) | (show _ ≤ 7293034; omega)) (by first | exact Nat.le_of_ble_eq_true rfl | (show _ ≤ 601024; omega) | (show _ ≤ 7293034; omega)) (by first | exact Nat.le_of_ble_eq_true rfl | (show _ ≤ 601024; omega) | (show _ ≤ 7293034; omega)) (by first | exact Nat.le_of_ble_eq_true rfl | (show _ ≤ 601024; omega) | (show _ ≤ 7293034; omega)) (by first | exact Nat.le_of_ble_eq_true rfl | (show _ ≤ 601024; omega) | (show _ ≤ 7293034; omega)) dL_law_822 (sL_decides hM) (fun r h2 hq => ?_) (fun x h9 hq => hq.elim)
  obtain ⟨z1, rfl, hM⟩ := hq
  refine zV_istore O dL_law_825 (by first | exact Nat.le_of_ble_eq_true rfl | (show _ ≤ 601024; omega) | (show _ ≤ 7293034; omega)) rfl ?_
  refine zV_aload_n O dL_law_827 rfl rfl ?_
  refine zV_aload_n O dL_law_828 rfl rfl ?_
  refine zV_iload O dL_law_829 rfl ?_
  refine zV_iconst (z := 1) O ⟨by omega, by omega⟩ dL_law_831 ?_
  obtain ⟨hc, hM⟩ := hM
  refine zV_iadd O dL_law_832 hc ?_
  obtain ⟨hc, hM⟩ := hM
  refine zV_sld O hS hc dL_law_833 ?_
  refine zV_aload_n O dL_law_834 rfl rfl ?_
  refine zV_iload O dL_law_835 rfl ?_
  refine zV_iconst (z := 2) O ⟨by omega, by omega⟩ dL_law_837 ?_
  obtain ⟨hc, hM⟩ := hM
  refine zV_iadd O dL_law_838 hc ?_
  obtain ⟨hc, hM⟩ := hM
  refine zV_sld O hS hc dL_law_839 ?_
  refine zV_aload_n O dL_law_840 rfl rfl ?_
  refine zV_iload O dL_law_841 rfl ?_
  refine zV_iconst (z := 3) O ⟨by omega, by omega⟩ dL_law_843 ?_
  obtain ⟨hc, hM⟩ := hM
  refine zV_iadd O dL_law_844 hc ?_
  obtain ⟨hc, hM⟩ := hM
  refine zV_sld O hS hc dL_law_845 ?_
  refine zV_callV (as := [aI (sc (v4 + 1)), aI (sc (v4 + 2)), aI (sc (v4 + 3))]) (st := []) O zc_X8_decides (Or.inl zl_RL_133) zi_1627 zi_1628 zt_185 rfl rfl (by decide) (by first | exact Nat.le_of_ble_eq_true rfl | (show _ ≤ 601024; omega) | (show _ ≤ 7293034; omega)) rfl rfl (by first | exact Nat.le_of_ble_eq_true rfl | (show _ ≤ 601024; omega) | (show _ ≤ 7293034; omega)) (by first | exact Nat.le_of_ble_eq_true rfl | (show _ ≤ 601024; omega) | (show _ ≤ 7293034; omega)) (by first | exact Nat.le_of_ble_eq_true rfl | (show _ ≤ 601024; omega) | (show _ ≤ 7293034; omega)) (by first | exact Nat.le_of_ble_eq_true rfl | (show _ ≤ 601024; omega) | (show _ ≤ 7293034; omega)) (by first | exact Nat.le_of_ble_eq_true rfl | (show _ ≤ 601024; omega) | (show _ ≤ 7293034; omega)) (by first | exact Nat.le_of_ble_eq_true rfl | (show _ ≤ 601024; omega) | (show _ ≤ 7293034; omega)) dL_law_846 (sX8_decides hM) (fun r h4 hq => ?_) (fun x h9 hq => hq.elim)
  obtain ⟨z3, rfl, hM⟩ := hq
  refine zV_istore O dL_law_849 (by first | exact Nat.le_of_ble_eq_true rfl | (show _ ≤ 601024; omega) | (show _ ≤ 7293034; omega)) rfl ?_
  refine zV_aload_n O dL_law_851 rfl rfl ?_
  refine zV_callV (as := []) (st := []) O zc_X8_thrown (Or.inl zl_RL_100) zi_1295 zi_1296 zt_185 rfl rfl (by decide) (by first | exact Nat.le_of_ble_eq_true rfl | (show _ ≤ 601024; omega) | (show _ ≤ 7293034; omega)) rfl rfl (by first | exact Nat.le_of_ble_eq_true rfl | (show _ ≤ 601024; omega) | (show _ ≤ 7293034; omega)) (by first | exact Nat.le_of_ble_eq_true rfl | (show _ ≤ 601024; omega) | (show _ ≤ 7293034; omega)) (by first | exact Nat.le_of_ble_eq_true rfl | (show _ ≤ 601024; omega) | (show _ ≤ 7293034; omega)) (by first | exact Nat.le_of_ble_eq_true rfl | (show _ ≤ 601024; omega) | (show _ ≤ 7293034; omega)) (by first | exact Nat.le_of_ble_eq_true rfl | (show _ ≤ 601024; omega) | (show _ ≤ 7293034; omega)) (by first | exact Nat.le_of_ble_eq_true rfl | (show _ ≤ 601024; omega) | (show _ ≤ 7293034; omega)) dL_law_852 (sX8_thrown hM) (fun r h9 hq => ?_) (fun x h9 hq => hq.elim)
  obtain ⟨rfl, z5, rfl, hM⟩ := hq
  refine zV_iload O dL_law_855 rfl ?_
  refine zV_icmp_eq (tgt := 862) O dL_law_857 (by decide) (fun hc => ?_) (fun hc => ?_)
  · replace hM := hM.1 hc
    refine zV_iload O dL_law_862 rfl ?_
    refine zV_if_ne (tgt := 879) O dL_law_864 (by decide) (fun hc => ?_) (fun hc => ?_)
    · replace hM := hM.1 hc
      refine zV_goto (tgt := 2046) O dL_law_879 (by decide) ?_
      refine zV_sub (ls2 := [some (aA (b + 1)), some (aR 169), some (aR 185), some (aR 197), some (aI v4), none, none, none, none]) ⟨rfl, rfl, rfl, rfl, rfl, trivial⟩ ?_
      exact hK _ _ _ _ (by omega) (by omega) hM
    · replace hM := hM.2 hc
      refine zV_aload_n O dL_law_867 rfl rfl ?_
      refine zV_iconst (z := 0) O ⟨by omega, by omega⟩ dL_law_868 ?_
      obtain ⟨hc, hM⟩ := hM
      refine zV_lald O zt_197 (by decide) hc dL_law_869 ?_
      refine zV_iload O dL_law_870 rfl ?_
      refine zV_i2l O dL_law_872 ?_
      refine zV_lcmp O dL_law_873 ?_
      refine zV_if_eq (tgt := 879) O dL_law_874 (by decide) (fun hc => ?_) (fun hc => ?_)
      · replace hM := hM.1 hc
        refine zV_goto (tgt := 2046) O dL_law_879 (by decide) ?_
        refine zV_sub (ls2 := [some (aA (b + 1)), some (aR 169), some (aR 185), some (aR 197), some (aI v4), none, none, none, none]) ⟨rfl, rfl, rfl, rfl, rfl, trivial⟩ ?_
        exact hK _ _ _ _ (by omega) (by omega) hM
      · replace hM := hM.2 hc
        refine zV_iconst (z := 0) O ⟨by omega, by omega⟩ dL_law_877 ?_
        exact zV_zret O rfl (Or.inl rfl) ⟨_, rfl, (Or.inl rfl), hM⟩ (by first | exact Nat.le_of_ble_eq_true rfl | (show _ ≤ 601024; omega) | (show _ ≤ 7293034; omega)) (by first | exact Nat.le_of_ble_eq_true rfl | (show _ ≤ 601024; omega) | (show _ ≤ 7293034; omega)) dL_law_878
  · replace hM := hM.2 hc
    refine zV_iconst (z := 0) O ⟨by omega, by omega⟩ dL_law_860 ?_
    exact zV_zret O rfl (Or.inl rfl) ⟨_, rfl, (Or.inl rfl), hM⟩ (by first | exact Nat.le_of_ble_eq_true rfl | (show _ ≤ 601024; omega) | (show _ ≤ 7293034; omega)) (by first | exact Nat.le_of_ble_eq_true rfl | (show _ ≤ 601024; omega) | (show _ ≤ 7293034; omega)) dL_law_861
def mW_11 (sc : Int → Int) (L : Int) (Q : Int → Hp → Prop) (K : Int → Hp → Prop) (v4 : Int) (h : Hp) : Prop := (zr (v4 + 1) ∧ (((0 : Int) ≤ (v4 + 1) ∧ (v4 + 1) < L) ∧ (zr (v4 + 2) ∧ (((0 : Int) ≤ (v4 + 2) ∧ (v4 + 2) < L) ∧ (zr (v4 + 3) ∧ (((0 : Int) ≤ (v4 + 3) ∧ (v4 + 3) < L) ∧ (mL_allows (sc (v4 + 1)) (sc (v4 + 2)) (sc (v4 + 3)) h (fun z1 h2 => (zr (v4 + 1) ∧ (((0 : Int) ≤ (v4 + 1) ∧ (v4 + 1) < L) ∧ (zr (v4 + 2) ∧ (((0 : Int) ≤ (v4 + 2) ∧ (v4 + 2) < L) ∧ (zr (v4 + 3) ∧ (((0 : Int) ≤ (v4 + 3) ∧ (v4 + 3) < L) ∧ (mX8_allows (sc (v4 + 1)) (sc (v4 + 2)) (sc (v4 + 3)) h2 (fun z3 h4 => (mX8_thrown h4 (fun z5 => ((z5 = z1 → ((¬ z1 = 0 → (K v4 h4)) ∧ (z1 = 0 → (((0 : Int) ≤ 0 ∧ (0 : Int) < 1) ∧ ((z3 = 0 → (((zlcmp (rd h4 197 0) 0) = 0 → (K v4 h4)) ∧ (¬ (zlcmp (rd h4 197 0) 0) = 0 → (Q 0 h4)))) ∧ (¬ z3 = 0 → (((zlcmp (rd h4 197 0) 1) = 0 → (K v4 h4)) ∧ (¬ (zlcmp (rd h4 197 0) 1) = 0 → (Q 0 h4))))))))) ∧ (¬ z5 = z1 → (Q 0 h4)))))))))))))))))))))
set_option maxHeartbeats 4000000 in
set_option maxRecDepth 100000 in
theorem sW_11 {l0 : Launch} {a : ZC} {b : Nat} {L : Int} {sc : Int → Int} {Q : Int → Hp → Prop} {K : Int → Hp → Prop} {k n : Nat} {v4 : Int} {h : Hp} (O : zOk l0 a cL_law RL 9 (some .boolean) 198 []) (hS : zScr a b L sc) (hk : k ≤ 600000) (hn : n ≤ 7200000) (hK : ∀ (k2 n2 : Nat) (v4 : Int) (h : Hp), k2 ≤ k + 1 → n2 ≤ n + 6 → K v4 h → zV a (2048, 601024, 7293034, (qZ Q), xN) k2 n2 2046 [some (aA (b + 1)), some (aR 169), some (aR 185), some (aR 197), some (aI v4), none, none, none, none] [] h) (hM : mW_11 sc L Q K v4 h) : zV a (2048, 601024, 7293034, (qZ Q), xN) k n 882 [some (aA (b + 1)), some (aR 169), some (aR 185), some (aR 197), some (aI v4), none, none, none, none] [] h := by
  unfold mW_11 at hM
  refine zV_aload_n O dL_law_882 rfl rfl ?_
  refine zV_aload_n O dL_law_883 rfl rfl ?_
  refine zV_iload O dL_law_884 rfl ?_
  refine zV_iconst (z := 1) O ⟨by omega, by omega⟩ dL_law_886 ?_
  obtain ⟨hc, hM⟩ := hM
  refine zV_iadd O dL_law_887 hc ?_
  obtain ⟨hc, hM⟩ := hM
  refine zV_sld O hS hc dL_law_888 ?_
  refine zV_aload_n O dL_law_889 rfl rfl ?_
  refine zV_iload O dL_law_890 rfl ?_
  refine zV_iconst (z := 2) O ⟨by omega, by omega⟩ dL_law_892 ?_
  obtain ⟨hc, hM⟩ := hM
  refine zV_iadd O dL_law_893 hc ?_
  obtain ⟨hc, hM⟩ := hM
  refine zV_sld O hS hc dL_law_894 ?_
  refine zV_aload_n O dL_law_895 rfl rfl ?_
  refine zV_iload O dL_law_896 rfl ?_
  refine zV_iconst (z := 3) O ⟨by omega, by omega⟩ dL_law_898 ?_
  obtain ⟨hc, hM⟩ := hM
  refine zV_iadd O dL_law_899 hc ?_
  obtain ⟨hc, hM⟩ := hM
  refine zV_sld O hS hc dL_law_900 ?_
  refine zV_aload_n O dL_law_901 rfl rfl ?_
  refine zV_callSH (as := [aR 169, aI (sc (v4 + 1)), aI (sc (v4 + 2)), aI (sc (v4 + 3)), aR 197]) (st := []) O zch_L_allows.1 zch_L_allows.2.1 zch_L_allows.2.2.1 zch_L_allows.2.2.2 zl_RL_134 zi_1088 (by first | exact Nat.le_of_ble_eq_true rfl | (show _ ≤ 601024; omega) | (show _ ≤ 7293034; omega)) rfl rfl (by first | exact Nat.le_of_ble_eq_true rfl | (show _ ≤ 601024; omega) | (show _ ≤ 7293034; omega)) (by first | exact Nat.le_of_ble_eq_true rfl | (show _ ≤ 601024; omega) | (show _ ≤ 7293034; omega)) (by first | exact Nat.le_of_ble_eq_true rfl | (show _ ≤ 601024; omega) | (show _ ≤ 7293034; omega)) (by first | exact Nat.le_of_ble_eq_true rfl | (show _ ≤ 601024; omega) | (show _ ≤ 7293034; omega)) (by first | exact Nat.le_of_ble_eq_true rfl | (show _ ≤ 601024; omega) | (show _ ≤ 7293034; omega)) (by first | exact Nat.le_of_ble_eq_true rfl | (show _ ≤ 601024; omega) | (show _ ≤ 7293034; omega)) dL_law_902 (sL_allows hM) (fun r h2 hq => ?_) (fun x h9 hq => hq.elim)
  obtain ⟨z1, rfl, hM⟩ := hq
  refine zV_istore O dL_law_905 (by first | exact Nat.le_of_ble_eq_true rfl | (show _ ≤ 601024; omega) | (show _ ≤ 7293034; omega)) rfl ?_
  refine zV_aload_n O dL_law_907 rfl rfl ?_
  refine zV_aload_n O dL_law_908 rfl rfl ?_
  refine zV_iload O dL_law_909 rfl ?_
  refine zV_iconst (z := 1) O ⟨by omega, by omega⟩ dL_law_911 ?_
  obtain ⟨hc, hM⟩ := hM
  refine zV_iadd O dL_law_912 hc ?_
  obtain ⟨hc, hM⟩ := hM
  refine zV_sld O hS hc dL_law_913 ?_
  refine zV_aload_n O dL_law_914 rfl rfl ?_
  refine zV_iload O dL_law_915 rfl ?_
  refine zV_iconst (z := 2) O ⟨by omega, by omega⟩ dL_law_917 ?_
  obtain ⟨hc, hM⟩ := hM
  refine zV_iadd O dL_law_918 hc ?_
  obtain ⟨hc, hM⟩ := hM
  refine zV_sld O hS hc dL_law_919 ?_
  refine zV_aload_n O dL_law_920 rfl rfl ?_
  refine zV_iload O dL_law_921 rfl ?_
  refine zV_iconst (z := 3) O ⟨by omega, by omega⟩ dL_law_923 ?_
  obtain ⟨hc, hM⟩ := hM
  refine zV_iadd O dL_law_924 hc ?_
  obtain ⟨hc, hM⟩ := hM
  refine zV_sld O hS hc dL_law_925 ?_
  refine zV_callV (as := [aI (sc (v4 + 1)), aI (sc (v4 + 2)), aI (sc (v4 + 3))]) (st := []) O zc_X8_allows (Or.inl zl_RL_136) zi_1643 zi_1644 zt_185 rfl rfl (by decide) (by first | exact Nat.le_of_ble_eq_true rfl | (show _ ≤ 601024; omega) | (show _ ≤ 7293034; omega)) rfl rfl (by first | exact Nat.le_of_ble_eq_true rfl | (show _ ≤ 601024; omega) | (show _ ≤ 7293034; omega)) (by first | exact Nat.le_of_ble_eq_true rfl | (show _ ≤ 601024; omega) | (show _ ≤ 7293034; omega)) (by first | exact Nat.le_of_ble_eq_true rfl | (show _ ≤ 601024; omega) | (show _ ≤ 7293034; omega)) (by first | exact Nat.le_of_ble_eq_true rfl | (show _ ≤ 601024; omega) | (show _ ≤ 7293034; omega)) (by first | exact Nat.le_of_ble_eq_true rfl | (show _ ≤ 601024; omega) | (show _ ≤ 7293034; omega)) (by first | exact Nat.le_of_ble_eq_true rfl | (show _ ≤ 601024; omega) | (show _ ≤ 7293034; omega)) dL_law_926 (sX8_allows hM) (fun r h4 hq => ?_) (fun x h9 hq => hq.elim)
  obtain ⟨z3, rfl, hzz3, hM⟩ := hq
  refine zV_istore O dL_law_929 (by first | exact Nat.le_of_ble_eq_true rfl | (show _ ≤ 601024; omega) | (show _ ≤ 7293034; omega)) rfl ?_
  refine zV_aload_n O dL_law_931 rfl rfl ?_
  refine zV_callV (as := []) (st := []) O zc_X8_thrown (Or.inl zl_RL_100) zi_1295 zi_1296 zt_185 rfl rfl (by decide) (by first | exact Nat.le_of_ble_eq_true rfl | (show _ ≤ 601024; omega) | (show _ ≤ 7293034; omega)) rfl rfl (by first | exact Nat.le_of_ble_eq_true rfl | (show _ ≤ 601024; omega) | (show _ ≤ 7293034; omega)) (by first | exact Nat.le_of_ble_eq_true rfl | (show _ ≤ 601024; omega) | (show _ ≤ 7293034; omega)) (by first | exact Nat.le_of_ble_eq_true rfl | (show _ ≤ 601024; omega) | (show _ ≤ 7293034; omega)) (by first | exact Nat.le_of_ble_eq_true rfl | (show _ ≤ 601024; omega) | (show _ ≤ 7293034; omega)) (by first | exact Nat.le_of_ble_eq_true rfl | (show _ ≤ 601024; omega) | (show _ ≤ 7293034; omega)) (by first | exact Nat.le_of_ble_eq_true rfl | (show _ ≤ 601024; omega) | (show _ ≤ 7293034; omega)) dL_law_932 (sX8_thrown hM) (fun r h9 hq => ?_) (fun x h9 hq => hq.elim)
  obtain ⟨rfl, z5, rfl, hM⟩ := hq
  refine zV_iload O dL_law_935 rfl ?_
  refine zV_icmp_eq (tgt := 942) O dL_law_937 (by decide) (fun hc => ?_) (fun hc => ?_)
  · replace hM := hM.1 hc
    refine zV_iload O dL_law_942 rfl ?_
    refine zV_if_ne (tgt := 966) O dL_law_944 (by decide) (fun hc => ?_) (fun hc => ?_)
    · replace hM := hM.1 hc
      refine zV_goto (tgt := 2046) O dL_law_966 (by decide) ?_
      refine zV_sub (ls2 := [some (aA (b + 1)), some (aR 169), some (aR 185), some (aR 197), some (aI v4), none, none, none, none]) ⟨rfl, rfl, rfl, rfl, rfl, trivial⟩ ?_
      exact hK _ _ _ _ (by omega) (by omega) hM
    · replace hM := hM.2 hc
      refine zV_aload_n O dL_law_947 rfl rfl ?_
      refine zV_iconst (z := 0) O ⟨by omega, by omega⟩ dL_law_948 ?_
      obtain ⟨hc, hM⟩ := hM
      refine zV_lald O zt_197 (by decide) hc dL_law_949 ?_
      refine zV_iload O dL_law_950 rfl ?_
      refine zV_if_eq (tgt := 959) O dL_law_952 (by decide) (fun hc => ?_) (fun hc => ?_)
      · replace hM := hM.1 hc
        refine zV_lconst (z := 0) O ⟨by omega, by omega⟩ rfl dL_law_959 ?_
        refine zV_lcmp O dL_law_960 ?_
        refine zV_if_eq (tgt := 966) O dL_law_961 (by decide) (fun hc => ?_) (fun hc => ?_)
        · replace hM := hM.1 hc
          refine zV_goto (tgt := 2046) O dL_law_966 (by decide) ?_
          refine zV_sub (ls2 := [some (aA (b + 1)), some (aR 169), some (aR 185), some (aR 197), some (aI v4), none, none, none, none]) ⟨rfl, rfl, rfl, rfl, rfl, trivial⟩ ?_
          exact hK _ _ _ _ (by omega) (by omega) hM
        · replace hM := hM.2 hc
          refine zV_iconst (z := 0) O ⟨by omega, by omega⟩ dL_law_964 ?_
          exact zV_zret O rfl (Or.inl rfl) ⟨_, rfl, (Or.inl rfl), hM⟩ (by first | exact Nat.le_of_ble_eq_true rfl | (show _ ≤ 601024; omega) | (show _ ≤ 7293034; omega)) (by first | exact Nat.le_of_ble_eq_true rfl | (show _ ≤ 601024; omega) | (show _ ≤ 7293034; omega)) dL_law_965
      · replace hM := hM.2 hc
        refine zV_lconst (z := 1) O ⟨by omega, by omega⟩ rfl dL_law_955 ?_
        refine zV_goto (tgt := 960) O dL_law_956 (by decide) ?_
        refine zV_lcmp O dL_law_960 ?_
        refine zV_if_eq (tgt := 966) O dL_law_961 (by decide) (fun hc => ?_) (fun hc => ?_)
        · replace hM := hM.1 hc
          refine zV_goto (tgt := 2046) O dL_law_966 (by decide) ?_
          refine zV_sub (ls2 := [some (aA (b + 1)), some (aR 169), some (aR 185), some (aR 197), some (aI v4), none, none, none, none]) ⟨rfl, rfl, rfl, rfl, rfl, trivial⟩ ?_
          exact hK _ _ _ _ (by omega) (by omega) hM
        · replace hM := hM.2 hc
          refine zV_iconst (z := 0) O ⟨by omega, by omega⟩ dL_law_964 ?_
          exact zV_zret O rfl (Or.inl rfl) ⟨_, rfl, (Or.inl rfl), hM⟩ (by first | exact Nat.le_of_ble_eq_true rfl | (show _ ≤ 601024; omega) | (show _ ≤ 7293034; omega)) (by first | exact Nat.le_of_ble_eq_true rfl | (show _ ≤ 601024; omega) | (show _ ≤ 7293034; omega)) dL_law_965
  · replace hM := hM.2 hc
    refine zV_iconst (z := 0) O ⟨by omega, by omega⟩ dL_law_940 ?_
    exact zV_zret O rfl (Or.inl rfl) ⟨_, rfl, (Or.inl rfl), hM⟩ (by first | exact Nat.le_of_ble_eq_true rfl | (show _ ≤ 601024; omega) | (show _ ≤ 7293034; omega)) (by first | exact Nat.le_of_ble_eq_true rfl | (show _ ≤ 601024; omega) | (show _ ≤ 7293034; omega)) dL_law_941
def mW_12 (sc : Int → Int) (L : Int) (Q : Int → Hp → Prop) (K : Int → Hp → Prop) (v4 : Int) (h : Hp) : Prop := (zr (v4 + 1) ∧ (((0 : Int) ≤ (v4 + 1) ∧ (v4 + 1) < L) ∧ (mL_reach (sc (v4 + 1)) h (fun z1 h2 => (zr (v4 + 1) ∧ (((0 : Int) ≤ (v4 + 1) ∧ (v4 + 1) < L) ∧ (mX8_reach (sc (v4 + 1)) h2 (fun z3 h4 => (mX8_thrown h4 (fun z5 => ((z5 = z1 → ((¬ z1 = 0 → (K v4 h4)) ∧ (z1 = 0 → (((0 : Int) ≤ 0 ∧ (0 : Int) < 1) ∧ (((zlcmp (rd h4 197 0) z3) = 0 → (K v4 h4)) ∧ (¬ (zlcmp (rd h4 197 0) z3) = 0 → (Q 0 h4))))))) ∧ (¬ z5 = z1 → (Q 0 h4)))))))))))))
set_option maxHeartbeats 4000000 in
set_option maxRecDepth 100000 in
theorem sW_12 {l0 : Launch} {a : ZC} {b : Nat} {L : Int} {sc : Int → Int} {Q : Int → Hp → Prop} {K : Int → Hp → Prop} {k n : Nat} {v4 : Int} {h : Hp} (O : zOk l0 a cL_law RL 9 (some .boolean) 198 []) (hS : zScr a b L sc) (hk : k ≤ 600000) (hn : n ≤ 7200000) (hK : ∀ (k2 n2 : Nat) (v4 : Int) (h : Hp), k2 ≤ k + 1 → n2 ≤ n + 6 → K v4 h → zV a (2048, 601024, 7293034, (qZ Q), xN) k2 n2 2046 [some (aA (b + 1)), some (aR 169), some (aR 185), some (aR 197), some (aI v4), none, none, none, none] [] h) (hM : mW_12 sc L Q K v4 h) : zV a (2048, 601024, 7293034, (qZ Q), xN) k n 969 [some (aA (b + 1)), some (aR 169), some (aR 185), some (aR 197), some (aI v4), none, none, none, none] [] h := by
  unfold mW_12 at hM
  refine zV_aload_n O dL_law_969 rfl rfl ?_
  refine zV_aload_n O dL_law_970 rfl rfl ?_
  refine zV_iload O dL_law_971 rfl ?_
  refine zV_iconst (z := 1) O ⟨by omega, by omega⟩ dL_law_973 ?_
  obtain ⟨hc, hM⟩ := hM
  refine zV_iadd O dL_law_974 hc ?_
  obtain ⟨hc, hM⟩ := hM
  refine zV_sld O hS hc dL_law_975 ?_
  refine zV_aload_n O dL_law_976 rfl rfl ?_
  refine zV_callSH (as := [aR 169, aI (sc (v4 + 1)), aR 197]) (st := []) O zch_L_reach.1 zch_L_reach.2.1 zch_L_reach.2.2.1 zch_L_reach.2.2.2 zl_RL_137 zi_1096 (by first | exact Nat.le_of_ble_eq_true rfl | (show _ ≤ 601024; omega) | (show _ ≤ 7293034; omega)) rfl rfl (by first | exact Nat.le_of_ble_eq_true rfl | (show _ ≤ 601024; omega) | (show _ ≤ 7293034; omega)) (by first | exact Nat.le_of_ble_eq_true rfl | (show _ ≤ 601024; omega) | (show _ ≤ 7293034; omega)) (by first | exact Nat.le_of_ble_eq_true rfl | (show _ ≤ 601024; omega) | (show _ ≤ 7293034; omega)) (by first | exact Nat.le_of_ble_eq_true rfl | (show _ ≤ 601024; omega) | (show _ ≤ 7293034; omega)) (by first | exact Nat.le_of_ble_eq_true rfl | (show _ ≤ 601024; omega) | (show _ ≤ 7293034; omega)) (by first | exact Nat.le_of_ble_eq_true rfl | (show _ ≤ 601024; omega) | (show _ ≤ 7293034; omega)) dL_law_977 (sL_reach hM) (fun r h2 hq => ?_) (fun x h9 hq => hq.elim)
  obtain ⟨z1, rfl, hM⟩ := hq
  refine zV_istore O dL_law_980 (by first | exact Nat.le_of_ble_eq_true rfl | (show _ ≤ 601024; omega) | (show _ ≤ 7293034; omega)) rfl ?_
  refine zV_aload_n O dL_law_982 rfl rfl ?_
  refine zV_aload_n O dL_law_983 rfl rfl ?_
  refine zV_iload O dL_law_984 rfl ?_
  refine zV_iconst (z := 1) O ⟨by omega, by omega⟩ dL_law_986 ?_
  obtain ⟨hc, hM⟩ := hM
  refine zV_iadd O dL_law_987 hc ?_
  obtain ⟨hc, hM⟩ := hM
  refine zV_sld O hS hc dL_law_988 ?_
  refine zV_callV (as := [aI (sc (v4 + 1))]) (st := []) O zc_X8_reach (Or.inl zl_RL_139) zi_1651 zi_1652 zt_185 rfl rfl (by decide) (by first | exact Nat.le_of_ble_eq_true rfl | (show _ ≤ 601024; omega) | (show _ ≤ 7293034; omega)) rfl rfl (by first | exact Nat.le_of_ble_eq_true rfl | (show _ ≤ 601024; omega) | (show _ ≤ 7293034; omega)) (by first | exact Nat.le_of_ble_eq_true rfl | (show _ ≤ 601024; omega) | (show _ ≤ 7293034; omega)) (by first | exact Nat.le_of_ble_eq_true rfl | (show _ ≤ 601024; omega) | (show _ ≤ 7293034; omega)) (by first | exact Nat.le_of_ble_eq_true rfl | (show _ ≤ 601024; omega) | (show _ ≤ 7293034; omega)) (by first | exact Nat.le_of_ble_eq_true rfl | (show _ ≤ 601024; omega) | (show _ ≤ 7293034; omega)) (by first | exact Nat.le_of_ble_eq_true rfl | (show _ ≤ 601024; omega) | (show _ ≤ 7293034; omega)) dL_law_989 (sX8_reach hM) (fun r h4 hq => ?_) (fun x h9 hq => hq.elim)
  obtain ⟨z3, rfl, hM⟩ := hq
  refine zV_istore O dL_law_992 (by first | exact Nat.le_of_ble_eq_true rfl | (show _ ≤ 601024; omega) | (show _ ≤ 7293034; omega)) rfl ?_
  refine zV_aload_n O dL_law_994 rfl rfl ?_
  refine zV_callV (as := []) (st := []) O zc_X8_thrown (Or.inl zl_RL_100) zi_1295 zi_1296 zt_185 rfl rfl (by decide) (by first | exact Nat.le_of_ble_eq_true rfl | (show _ ≤ 601024; omega) | (show _ ≤ 7293034; omega)) rfl rfl (by first | exact Nat.le_of_ble_eq_true rfl | (show _ ≤ 601024; omega) | (show _ ≤ 7293034; omega)) (by first | exact Nat.le_of_ble_eq_true rfl | (show _ ≤ 601024; omega) | (show _ ≤ 7293034; omega)) (by first | exact Nat.le_of_ble_eq_true rfl | (show _ ≤ 601024; omega) | (show _ ≤ 7293034; omega)) (by first | exact Nat.le_of_ble_eq_true rfl | (show _ ≤ 601024; omega) | (show _ ≤ 7293034; omega)) (by first | exact Nat.le_of_ble_eq_true rfl | (show _ ≤ 601024; omega) | (show _ ≤ 7293034; omega)) (by first | exact Nat.le_of_ble_eq_true rfl | (show _ ≤ 601024; omega) | (show _ ≤ 7293034; omega)) dL_law_995 (sX8_thrown hM) (fun r h9 hq => ?_) (fun x h9 hq => hq.elim)
  obtain ⟨rfl, z5, rfl, hM⟩ := hq
  refine zV_iload O dL_law_998 rfl ?_
  refine zV_icmp_eq (tgt := 1005) O dL_law_1000 (by decide) (fun hc => ?_) (fun hc => ?_)
  · replace hM := hM.1 hc
    refine zV_iload O dL_law_1005 rfl ?_
    refine zV_if_ne (tgt := 1022) O dL_law_1007 (by decide) (fun hc => ?_) (fun hc => ?_)
    · replace hM := hM.1 hc
      refine zV_goto (tgt := 2046) O dL_law_1022 (by decide) ?_
      refine zV_sub (ls2 := [some (aA (b + 1)), some (aR 169), some (aR 185), some (aR 197), some (aI v4), none, none, none, none]) ⟨rfl, rfl, rfl, rfl, rfl, trivial⟩ ?_
      exact hK _ _ _ _ (by omega) (by omega) hM
    · replace hM := hM.2 hc
      refine zV_aload_n O dL_law_1010 rfl rfl ?_
      refine zV_iconst (z := 0) O ⟨by omega, by omega⟩ dL_law_1011 ?_
      obtain ⟨hc, hM⟩ := hM
      refine zV_lald O zt_197 (by decide) hc dL_law_1012 ?_
      refine zV_iload O dL_law_1013 rfl ?_
      refine zV_i2l O dL_law_1015 ?_
      refine zV_lcmp O dL_law_1016 ?_
      refine zV_if_eq (tgt := 1022) O dL_law_1017 (by decide) (fun hc => ?_) (fun hc => ?_)
      · replace hM := hM.1 hc
        refine zV_goto (tgt := 2046) O dL_law_1022 (by decide) ?_
        refine zV_sub (ls2 := [some (aA (b + 1)), some (aR 169), some (aR 185), some (aR 197), some (aI v4), none, none, none, none]) ⟨rfl, rfl, rfl, rfl, rfl, trivial⟩ ?_
        exact hK _ _ _ _ (by omega) (by omega) hM
      · replace hM := hM.2 hc
        refine zV_iconst (z := 0) O ⟨by omega, by omega⟩ dL_law_1020 ?_
        exact zV_zret O rfl (Or.inl rfl) ⟨_, rfl, (Or.inl rfl), hM⟩ (by first | exact Nat.le_of_ble_eq_true rfl | (show _ ≤ 601024; omega) | (show _ ≤ 7293034; omega)) (by first | exact Nat.le_of_ble_eq_true rfl | (show _ ≤ 601024; omega) | (show _ ≤ 7293034; omega)) dL_law_1021
  · replace hM := hM.2 hc
    refine zV_iconst (z := 0) O ⟨by omega, by omega⟩ dL_law_1003 ?_
    exact zV_zret O rfl (Or.inl rfl) ⟨_, rfl, (Or.inl rfl), hM⟩ (by first | exact Nat.le_of_ble_eq_true rfl | (show _ ≤ 601024; omega) | (show _ ≤ 7293034; omega)) (by first | exact Nat.le_of_ble_eq_true rfl | (show _ ≤ 601024; omega) | (show _ ≤ 7293034; omega)) dL_law_1004
def mW_13 (sc : Int → Int) (L : Int) (Q : Int → Hp → Prop) (K : Int → Hp → Prop) (v4 : Int) (h : Hp) : Prop := (mX7_freeNumber h (fun z1 h2 => (mX8_freeNumber h2 (fun z3 h4 => ((z1 = z3 → (K v4 h4)) ∧ (¬ z1 = z3 → (Q 0 h4)))))))
set_option maxHeartbeats 4000000 in
set_option maxRecDepth 100000 in
theorem sW_13 {l0 : Launch} {a : ZC} {b : Nat} {L : Int} {sc : Int → Int} {Q : Int → Hp → Prop} {K : Int → Hp → Prop} {k n : Nat} {v4 : Int} {h : Hp} (O : zOk l0 a cL_law RL 9 (some .boolean) 198 []) (hS : zScr a b L sc) (hk : k ≤ 600000) (hn : n ≤ 7200000) (hK : ∀ (k2 n2 : Nat) (v4 : Int) (h : Hp), k2 ≤ k + 1 → n2 ≤ n + 6 → K v4 h → zV a (2048, 601024, 7293034, (qZ Q), xN) k2 n2 2046 [some (aA (b + 1)), some (aR 169), some (aR 185), some (aR 197), some (aI v4), none, none, none, none] [] h) (hM : mW_13 sc L Q K v4 h) : zV a (2048, 601024, 7293034, (qZ Q), xN) k n 1025 [some (aA (b + 1)), some (aR 169), some (aR 185), some (aR 197), some (aI v4), none, none, none, none] [] h := by
  unfold mW_13 at hM
  refine zV_aload_n O dL_law_1025 rfl rfl ?_
  refine zV_callV (as := []) (st := []) O zc_X7_freeNumber (Or.inl zl_RL_140) zi_493 zi_494 zt_169 rfl rfl (by decide) (by first | exact Nat.le_of_ble_eq_true rfl | (show _ ≤ 601024; omega) | (show _ ≤ 7293034; omega)) rfl rfl (by first | exact Nat.le_of_ble_eq_true rfl | (show _ ≤ 601024; omega) | (show _ ≤ 7293034; omega)) (by first | exact Nat.le_of_ble_eq_true rfl | (show _ ≤ 601024; omega) | (show _ ≤ 7293034; omega)) (by first | exact Nat.le_of_ble_eq_true rfl | (show _ ≤ 601024; omega) | (show _ ≤ 7293034; omega)) (by first | exact Nat.le_of_ble_eq_true rfl | (show _ ≤ 601024; omega) | (show _ ≤ 7293034; omega)) (by first | exact Nat.le_of_ble_eq_true rfl | (show _ ≤ 601024; omega) | (show _ ≤ 7293034; omega)) (by first | exact Nat.le_of_ble_eq_true rfl | (show _ ≤ 601024; omega) | (show _ ≤ 7293034; omega)) dL_law_1026 (sX7_freeNumber hM) (fun r h2 hq => ?_) (fun x h9 hq => hq.elim)
  obtain ⟨z1, rfl, hM⟩ := hq
  refine zV_aload_n O dL_law_1029 rfl rfl ?_
  refine zV_callV (as := []) (st := [aI z1]) O zc_X8_freeNumber (Or.inl zl_RL_143) zi_1663 zi_1664 zt_185 rfl rfl (by decide) (by first | exact Nat.le_of_ble_eq_true rfl | (show _ ≤ 601024; omega) | (show _ ≤ 7293034; omega)) rfl rfl (by first | exact Nat.le_of_ble_eq_true rfl | (show _ ≤ 601024; omega) | (show _ ≤ 7293034; omega)) (by first | exact Nat.le_of_ble_eq_true rfl | (show _ ≤ 601024; omega) | (show _ ≤ 7293034; omega)) (by first | exact Nat.le_of_ble_eq_true rfl | (show _ ≤ 601024; omega) | (show _ ≤ 7293034; omega)) (by first | exact Nat.le_of_ble_eq_true rfl | (show _ ≤ 601024; omega) | (show _ ≤ 7293034; omega)) (by first | exact Nat.le_of_ble_eq_true rfl | (show _ ≤ 601024; omega) | (show _ ≤ 7293034; omega)) (by first | exact Nat.le_of_ble_eq_true rfl | (show _ ≤ 601024; omega) | (show _ ≤ 7293034; omega)) dL_law_1030 (sX8_freeNumber hM) (fun r h4 hq => ?_) (fun x h9 hq => hq.elim)
  obtain ⟨z3, rfl, hM⟩ := hq
  refine zV_icmp_eq (tgt := 2046) O dL_law_1033 (by decide) (fun hc => ?_) (fun hc => ?_)
  · replace hM := hM.1 hc
    refine zV_sub (ls2 := [some (aA (b + 1)), some (aR 169), some (aR 185), some (aR 197), some (aI v4), none, none, none, none]) ⟨rfl, rfl, rfl, rfl, rfl, trivial⟩ ?_
    exact hK _ _ _ _ (by omega) (by omega) hM
  · replace hM := hM.2 hc
    refine zV_iconst (z := 0) O ⟨by omega, by omega⟩ dL_law_1036 ?_
    exact zV_zret O rfl (Or.inl rfl) ⟨_, rfl, (Or.inl rfl), hM⟩ (by first | exact Nat.le_of_ble_eq_true rfl | (show _ ≤ 601024; omega) | (show _ ≤ 7293034; omega)) (by first | exact Nat.le_of_ble_eq_true rfl | (show _ ≤ 601024; omega) | (show _ ≤ 7293034; omega)) dL_law_1037
def mW_14 (sc : Int → Int) (L : Int) (Q : Int → Hp → Prop) (K : Int → Hp → Prop) (v4 : Int) (h : Hp) : Prop := (mX7_whyNot h (fun z1 h2 => (mX8_whyNot h2 (fun z3 h4 => ((z1 = z3 → (K v4 h4)) ∧ (¬ z1 = z3 → (Q 0 h4)))))))
set_option maxHeartbeats 4000000 in
set_option maxRecDepth 100000 in
theorem sW_14 {l0 : Launch} {a : ZC} {b : Nat} {L : Int} {sc : Int → Int} {Q : Int → Hp → Prop} {K : Int → Hp → Prop} {k n : Nat} {v4 : Int} {h : Hp} (O : zOk l0 a cL_law RL 9 (some .boolean) 198 []) (hS : zScr a b L sc) (hk : k ≤ 600000) (hn : n ≤ 7200000) (hK : ∀ (k2 n2 : Nat) (v4 : Int) (h : Hp), k2 ≤ k + 1 → n2 ≤ n + 6 → K v4 h → zV a (2048, 601024, 7293034, (qZ Q), xN) k2 n2 2046 [some (aA (b + 1)), some (aR 169), some (aR 185), some (aR 197), some (aI v4), none, none, none, none] [] h) (hM : mW_14 sc L Q K v4 h) : zV a (2048, 601024, 7293034, (qZ Q), xN) k n 1038 [some (aA (b + 1)), some (aR 169), some (aR 185), some (aR 197), some (aI v4), none, none, none, none] [] h := by
  unfold mW_14 at hM
  refine zV_aload_n O dL_law_1038 rfl rfl ?_
  refine zV_callV (as := []) (st := []) O zc_X7_whyNot (Or.inl zl_RL_144) zi_526 zi_527 zt_169 rfl rfl (by decide) (by first | exact Nat.le_of_ble_eq_true rfl | (show _ ≤ 601024; omega) | (show _ ≤ 7293034; omega)) rfl rfl (by first | exact Nat.le_of_ble_eq_true rfl | (show _ ≤ 601024; omega) | (show _ ≤ 7293034; omega)) (by first | exact Nat.le_of_ble_eq_true rfl | (show _ ≤ 601024; omega) | (show _ ≤ 7293034; omega)) (by first | exact Nat.le_of_ble_eq_true rfl | (show _ ≤ 601024; omega) | (show _ ≤ 7293034; omega)) (by first | exact Nat.le_of_ble_eq_true rfl | (show _ ≤ 601024; omega) | (show _ ≤ 7293034; omega)) (by first | exact Nat.le_of_ble_eq_true rfl | (show _ ≤ 601024; omega) | (show _ ≤ 7293034; omega)) (by first | exact Nat.le_of_ble_eq_true rfl | (show _ ≤ 601024; omega) | (show _ ≤ 7293034; omega)) dL_law_1039 (sX7_whyNot hM) (fun r h2 hq => ?_) (fun x h9 hq => hq.elim)
  obtain ⟨z1, rfl, hM⟩ := hq
  refine zV_aload_n O dL_law_1042 rfl rfl ?_
  refine zV_callV (as := []) (st := [aI z1]) O zc_X8_whyNot (Or.inl zl_RL_147) zi_1675 zi_1676 zt_185 rfl rfl (by decide) (by first | exact Nat.le_of_ble_eq_true rfl | (show _ ≤ 601024; omega) | (show _ ≤ 7293034; omega)) rfl rfl (by first | exact Nat.le_of_ble_eq_true rfl | (show _ ≤ 601024; omega) | (show _ ≤ 7293034; omega)) (by first | exact Nat.le_of_ble_eq_true rfl | (show _ ≤ 601024; omega) | (show _ ≤ 7293034; omega)) (by first | exact Nat.le_of_ble_eq_true rfl | (show _ ≤ 601024; omega) | (show _ ≤ 7293034; omega)) (by first | exact Nat.le_of_ble_eq_true rfl | (show _ ≤ 601024; omega) | (show _ ≤ 7293034; omega)) (by first | exact Nat.le_of_ble_eq_true rfl | (show _ ≤ 601024; omega) | (show _ ≤ 7293034; omega)) (by first | exact Nat.le_of_ble_eq_true rfl | (show _ ≤ 601024; omega) | (show _ ≤ 7293034; omega)) dL_law_1043 (sX8_whyNot hM) (fun r h4 hq => ?_) (fun x h9 hq => hq.elim)
  obtain ⟨z3, rfl, hM⟩ := hq
  refine zV_icmp_eq (tgt := 2046) O dL_law_1046 (by decide) (fun hc => ?_) (fun hc => ?_)
  · replace hM := hM.1 hc
    refine zV_sub (ls2 := [some (aA (b + 1)), some (aR 169), some (aR 185), some (aR 197), some (aI v4), none, none, none, none]) ⟨rfl, rfl, rfl, rfl, rfl, trivial⟩ ?_
    exact hK _ _ _ _ (by omega) (by omega) hM
  · replace hM := hM.2 hc
    refine zV_iconst (z := 0) O ⟨by omega, by omega⟩ dL_law_1049 ?_
    exact zV_zret O rfl (Or.inl rfl) ⟨_, rfl, (Or.inl rfl), hM⟩ (by first | exact Nat.le_of_ble_eq_true rfl | (show _ ≤ 601024; omega) | (show _ ≤ 7293034; omega)) (by first | exact Nat.le_of_ble_eq_true rfl | (show _ ≤ 601024; omega) | (show _ ≤ 7293034; omega)) dL_law_1050
def mW_15 (sc : Int → Int) (L : Int) (Q : Int → Hp → Prop) (K : Int → Hp → Prop) (v4 : Int) (h : Hp) : Prop := (mX7_conflict h (fun z1 h2 => (mX8_conflict h2 (fun z3 h4 => ((z1 = z3 → (K v4 h4)) ∧ (¬ z1 = z3 → (Q 0 h4)))))))
set_option maxHeartbeats 4000000 in
set_option maxRecDepth 100000 in
theorem sW_15 {l0 : Launch} {a : ZC} {b : Nat} {L : Int} {sc : Int → Int} {Q : Int → Hp → Prop} {K : Int → Hp → Prop} {k n : Nat} {v4 : Int} {h : Hp} (O : zOk l0 a cL_law RL 9 (some .boolean) 198 []) (hS : zScr a b L sc) (hk : k ≤ 600000) (hn : n ≤ 7200000) (hK : ∀ (k2 n2 : Nat) (v4 : Int) (h : Hp), k2 ≤ k + 1 → n2 ≤ n + 6 → K v4 h → zV a (2048, 601024, 7293034, (qZ Q), xN) k2 n2 2046 [some (aA (b + 1)), some (aR 169), some (aR 185), some (aR 197), some (aI v4), none, none, none, none] [] h) (hM : mW_15 sc L Q K v4 h) : zV a (2048, 601024, 7293034, (qZ Q), xN) k n 1051 [some (aA (b + 1)), some (aR 169), some (aR 185), some (aR 197), some (aI v4), none, none, none, none] [] h := by
  unfold mW_15 at hM
  refine zV_aload_n O dL_law_1051 rfl rfl ?_
  refine zV_callV (as := []) (st := []) O zc_X7_conflict (Or.inl zl_RL_148) zi_580 zi_581 zt_169 rfl rfl (by decide) (by first | exact Nat.le_of_ble_eq_true rfl | (show _ ≤ 601024; omega) | (show _ ≤ 7293034; omega)) rfl rfl (by first | exact Nat.le_of_ble_eq_true rfl | (show _ ≤ 601024; omega) | (show _ ≤ 7293034; omega)) (by first | exact Nat.le_of_ble_eq_true rfl | (show _ ≤ 601024; omega) | (show _ ≤ 7293034; omega)) (by first | exact Nat.le_of_ble_eq_true rfl | (show _ ≤ 601024; omega) | (show _ ≤ 7293034; omega)) (by first | exact Nat.le_of_ble_eq_true rfl | (show _ ≤ 601024; omega) | (show _ ≤ 7293034; omega)) (by first | exact Nat.le_of_ble_eq_true rfl | (show _ ≤ 601024; omega) | (show _ ≤ 7293034; omega)) (by first | exact Nat.le_of_ble_eq_true rfl | (show _ ≤ 601024; omega) | (show _ ≤ 7293034; omega)) dL_law_1052 (sX7_conflict hM) (fun r h2 hq => ?_) (fun x h9 hq => hq.elim)
  obtain ⟨z1, rfl, hM⟩ := hq
  refine zV_aload_n O dL_law_1055 rfl rfl ?_
  refine zV_callV (as := []) (st := [aI z1]) O zc_X8_conflict (Or.inl zl_RL_151) zi_1719 zi_1720 zt_185 rfl rfl (by decide) (by first | exact Nat.le_of_ble_eq_true rfl | (show _ ≤ 601024; omega) | (show _ ≤ 7293034; omega)) rfl rfl (by first | exact Nat.le_of_ble_eq_true rfl | (show _ ≤ 601024; omega) | (show _ ≤ 7293034; omega)) (by first | exact Nat.le_of_ble_eq_true rfl | (show _ ≤ 601024; omega) | (show _ ≤ 7293034; omega)) (by first | exact Nat.le_of_ble_eq_true rfl | (show _ ≤ 601024; omega) | (show _ ≤ 7293034; omega)) (by first | exact Nat.le_of_ble_eq_true rfl | (show _ ≤ 601024; omega) | (show _ ≤ 7293034; omega)) (by first | exact Nat.le_of_ble_eq_true rfl | (show _ ≤ 601024; omega) | (show _ ≤ 7293034; omega)) (by first | exact Nat.le_of_ble_eq_true rfl | (show _ ≤ 601024; omega) | (show _ ≤ 7293034; omega)) dL_law_1056 (sX8_conflict hM) (fun r h4 hq => ?_) (fun x h9 hq => hq.elim)
  obtain ⟨z3, rfl, hM⟩ := hq
  refine zV_icmp_eq (tgt := 2046) O dL_law_1059 (by decide) (fun hc => ?_) (fun hc => ?_)
  · replace hM := hM.1 hc
    refine zV_sub (ls2 := [some (aA (b + 1)), some (aR 169), some (aR 185), some (aR 197), some (aI v4), none, none, none, none]) ⟨rfl, rfl, rfl, rfl, rfl, trivial⟩ ?_
    exact hK _ _ _ _ (by omega) (by omega) hM
  · replace hM := hM.2 hc
    refine zV_iconst (z := 0) O ⟨by omega, by omega⟩ dL_law_1062 ?_
    exact zV_zret O rfl (Or.inl rfl) ⟨_, rfl, (Or.inl rfl), hM⟩ (by first | exact Nat.le_of_ble_eq_true rfl | (show _ ≤ 601024; omega) | (show _ ≤ 7293034; omega)) (by first | exact Nat.le_of_ble_eq_true rfl | (show _ ≤ 601024; omega) | (show _ ≤ 7293034; omega)) dL_law_1063
def mW_16 (sc : Int → Int) (L : Int) (Q : Int → Hp → Prop) (K : Int → Hp → Prop) (v4 : Int) (h : Hp) : Prop := (mX7_rewrites h (fun z1 h2 => (mX8_rewrites h2 (fun z3 h4 => ((z1 = z3 → (K v4 h4)) ∧ (¬ z1 = z3 → (Q 0 h4)))))))
set_option maxHeartbeats 4000000 in
set_option maxRecDepth 100000 in
theorem sW_16 {l0 : Launch} {a : ZC} {b : Nat} {L : Int} {sc : Int → Int} {Q : Int → Hp → Prop} {K : Int → Hp → Prop} {k n : Nat} {v4 : Int} {h : Hp} (O : zOk l0 a cL_law RL 9 (some .boolean) 198 []) (hS : zScr a b L sc) (hk : k ≤ 600000) (hn : n ≤ 7200000) (hK : ∀ (k2 n2 : Nat) (v4 : Int) (h : Hp), k2 ≤ k + 1 → n2 ≤ n + 6 → K v4 h → zV a (2048, 601024, 7293034, (qZ Q), xN) k2 n2 2046 [some (aA (b + 1)), some (aR 169), some (aR 185), some (aR 197), some (aI v4), none, none, none, none] [] h) (hM : mW_16 sc L Q K v4 h) : zV a (2048, 601024, 7293034, (qZ Q), xN) k n 1064 [some (aA (b + 1)), some (aR 169), some (aR 185), some (aR 197), some (aI v4), none, none, none, none] [] h := by
  unfold mW_16 at hM
  refine zV_aload_n O dL_law_1064 rfl rfl ?_
  refine zV_callV (as := []) (st := []) O zc_X7_rewrites (Or.inl zl_RL_152) zi_584 zi_585 zt_169 rfl rfl (by decide) (by first | exact Nat.le_of_ble_eq_true rfl | (show _ ≤ 601024; omega) | (show _ ≤ 7293034; omega)) rfl rfl (by first | exact Nat.le_of_ble_eq_true rfl | (show _ ≤ 601024; omega) | (show _ ≤ 7293034; omega)) (by first | exact Nat.le_of_ble_eq_true rfl | (show _ ≤ 601024; omega) | (show _ ≤ 7293034; omega)) (by first | exact Nat.le_of_ble_eq_true rfl | (show _ ≤ 601024; omega) | (show _ ≤ 7293034; omega)) (by first | exact Nat.le_of_ble_eq_true rfl | (show _ ≤ 601024; omega) | (show _ ≤ 7293034; omega)) (by first | exact Nat.le_of_ble_eq_true rfl | (show _ ≤ 601024; omega) | (show _ ≤ 7293034; omega)) (by first | exact Nat.le_of_ble_eq_true rfl | (show _ ≤ 601024; omega) | (show _ ≤ 7293034; omega)) dL_law_1065 (sX7_rewrites hM) (fun r h2 hq => ?_) (fun x h9 hq => hq.elim)
  obtain ⟨z1, rfl, hM⟩ := hq
  refine zV_aload_n O dL_law_1068 rfl rfl ?_
  refine zV_callV (as := []) (st := [aI z1]) O zc_X8_rewrites (Or.inl zl_RL_155) zi_1723 zi_1724 zt_185 rfl rfl (by decide) (by first | exact Nat.le_of_ble_eq_true rfl | (show _ ≤ 601024; omega) | (show _ ≤ 7293034; omega)) rfl rfl (by first | exact Nat.le_of_ble_eq_true rfl | (show _ ≤ 601024; omega) | (show _ ≤ 7293034; omega)) (by first | exact Nat.le_of_ble_eq_true rfl | (show _ ≤ 601024; omega) | (show _ ≤ 7293034; omega)) (by first | exact Nat.le_of_ble_eq_true rfl | (show _ ≤ 601024; omega) | (show _ ≤ 7293034; omega)) (by first | exact Nat.le_of_ble_eq_true rfl | (show _ ≤ 601024; omega) | (show _ ≤ 7293034; omega)) (by first | exact Nat.le_of_ble_eq_true rfl | (show _ ≤ 601024; omega) | (show _ ≤ 7293034; omega)) (by first | exact Nat.le_of_ble_eq_true rfl | (show _ ≤ 601024; omega) | (show _ ≤ 7293034; omega)) dL_law_1069 (sX8_rewrites hM) (fun r h4 hq => ?_) (fun x h9 hq => hq.elim)
  obtain ⟨z3, rfl, hM⟩ := hq
  refine zV_icmp_eq (tgt := 2046) O dL_law_1072 (by decide) (fun hc => ?_) (fun hc => ?_)
  · replace hM := hM.1 hc
    refine zV_sub (ls2 := [some (aA (b + 1)), some (aR 169), some (aR 185), some (aR 197), some (aI v4), none, none, none, none]) ⟨rfl, rfl, rfl, rfl, rfl, trivial⟩ ?_
    exact hK _ _ _ _ (by omega) (by omega) hM
  · replace hM := hM.2 hc
    refine zV_iconst (z := 0) O ⟨by omega, by omega⟩ dL_law_1075 ?_
    exact zV_zret O rfl (Or.inl rfl) ⟨_, rfl, (Or.inl rfl), hM⟩ (by first | exact Nat.le_of_ble_eq_true rfl | (show _ ≤ 601024; omega) | (show _ ≤ 7293034; omega)) (by first | exact Nat.le_of_ble_eq_true rfl | (show _ ≤ 601024; omega) | (show _ ≤ 7293034; omega)) dL_law_1076
def mW_17 (sc : Int → Int) (L : Int) (Q : Int → Hp → Prop) (K : Int → Hp → Prop) (v4 : Int) (h : Hp) : Prop := (zr (v4 + 1) ∧ (((0 : Int) ≤ (v4 + 1) ∧ (v4 + 1) < L) ∧ (mL_clashesIn (sc (v4 + 1)) h (fun z1 h2 => (zr (v4 + 1) ∧ (((0 : Int) ≤ (v4 + 1) ∧ (v4 + 1) < L) ∧ (mX8_clashesIn (sc (v4 + 1)) h2 (fun z3 h4 => (mX8_thrown h4 (fun z5 => ((z5 = z1 → ((¬ z1 = 0 → (K v4 h4)) ∧ (z1 = 0 → (((0 : Int) ≤ 0 ∧ (0 : Int) < 1) ∧ (((zlcmp (rd h4 197 0) z3) = 0 → (K v4 h4)) ∧ (¬ (zlcmp (rd h4 197 0) z3) = 0 → (Q 0 h4))))))) ∧ (¬ z5 = z1 → (Q 0 h4)))))))))))))
set_option maxHeartbeats 4000000 in
set_option maxRecDepth 100000 in
theorem sW_17 {l0 : Launch} {a : ZC} {b : Nat} {L : Int} {sc : Int → Int} {Q : Int → Hp → Prop} {K : Int → Hp → Prop} {k n : Nat} {v4 : Int} {h : Hp} (O : zOk l0 a cL_law RL 9 (some .boolean) 198 []) (hS : zScr a b L sc) (hk : k ≤ 600000) (hn : n ≤ 7200000) (hK : ∀ (k2 n2 : Nat) (v4 : Int) (h : Hp), k2 ≤ k + 1 → n2 ≤ n + 6 → K v4 h → zV a (2048, 601024, 7293034, (qZ Q), xN) k2 n2 2046 [some (aA (b + 1)), some (aR 169), some (aR 185), some (aR 197), some (aI v4), none, none, none, none] [] h) (hM : mW_17 sc L Q K v4 h) : zV a (2048, 601024, 7293034, (qZ Q), xN) k n 1077 [some (aA (b + 1)), some (aR 169), some (aR 185), some (aR 197), some (aI v4), none, none, none, none] [] h := by
  unfold mW_17 at hM
  refine zV_aload_n O dL_law_1077 rfl rfl ?_
  refine zV_aload_n O dL_law_1078 rfl rfl ?_
  refine zV_iload O dL_law_1079 rfl ?_
  refine zV_iconst (z := 1) O ⟨by omega, by omega⟩ dL_law_1081 ?_
  obtain ⟨hc, hM⟩ := hM
  refine zV_iadd O dL_law_1082 hc ?_
  obtain ⟨hc, hM⟩ := hM
  refine zV_sld O hS hc dL_law_1083 ?_
  refine zV_aload_n O dL_law_1084 rfl rfl ?_
  refine zV_callSH (as := [aR 169, aI (sc (v4 + 1)), aR 197]) (st := []) O zch_L_clashesIn.1 zch_L_clashesIn.2.1 zch_L_clashesIn.2.2.1 zch_L_clashesIn.2.2.2 zl_RL_156 zi_1103 (by first | exact Nat.le_of_ble_eq_true rfl | (show _ ≤ 601024; omega) | (show _ ≤ 7293034; omega)) rfl rfl (by first | exact Nat.le_of_ble_eq_true rfl | (show _ ≤ 601024; omega) | (show _ ≤ 7293034; omega)) (by first | exact Nat.le_of_ble_eq_true rfl | (show _ ≤ 601024; omega) | (show _ ≤ 7293034; omega)) (by first | exact Nat.le_of_ble_eq_true rfl | (show _ ≤ 601024; omega) | (show _ ≤ 7293034; omega)) (by first | exact Nat.le_of_ble_eq_true rfl | (show _ ≤ 601024; omega) | (show _ ≤ 7293034; omega)) (by first | exact Nat.le_of_ble_eq_true rfl | (show _ ≤ 601024; omega) | (show _ ≤ 7293034; omega)) (by first | exact Nat.le_of_ble_eq_true rfl | (show _ ≤ 601024; omega) | (show _ ≤ 7293034; omega)) dL_law_1085 (sL_clashesIn hM) (fun r h2 hq => ?_) (fun x h9 hq => hq.elim)
  obtain ⟨z1, rfl, hM⟩ := hq
  refine zV_istore O dL_law_1088 (by first | exact Nat.le_of_ble_eq_true rfl | (show _ ≤ 601024; omega) | (show _ ≤ 7293034; omega)) rfl ?_
  refine zV_aload_n O dL_law_1090 rfl rfl ?_
  refine zV_aload_n O dL_law_1091 rfl rfl ?_
  refine zV_iload O dL_law_1092 rfl ?_
  refine zV_iconst (z := 1) O ⟨by omega, by omega⟩ dL_law_1094 ?_
  obtain ⟨hc, hM⟩ := hM
  refine zV_iadd O dL_law_1095 hc ?_
  obtain ⟨hc, hM⟩ := hM
  refine zV_sld O hS hc dL_law_1096 ?_
  refine zV_callV (as := [aI (sc (v4 + 1))]) (st := []) O zc_X8_clashesIn (Or.inl zl_RL_158) zi_1727 zi_1728 zt_185 rfl rfl (by decide) (by first | exact Nat.le_of_ble_eq_true rfl | (show _ ≤ 601024; omega) | (show _ ≤ 7293034; omega)) rfl rfl (by first | exact Nat.le_of_ble_eq_true rfl | (show _ ≤ 601024; omega) | (show _ ≤ 7293034; omega)) (by first | exact Nat.le_of_ble_eq_true rfl | (show _ ≤ 601024; omega) | (show _ ≤ 7293034; omega)) (by first | exact Nat.le_of_ble_eq_true rfl | (show _ ≤ 601024; omega) | (show _ ≤ 7293034; omega)) (by first | exact Nat.le_of_ble_eq_true rfl | (show _ ≤ 601024; omega) | (show _ ≤ 7293034; omega)) (by first | exact Nat.le_of_ble_eq_true rfl | (show _ ≤ 601024; omega) | (show _ ≤ 7293034; omega)) (by first | exact Nat.le_of_ble_eq_true rfl | (show _ ≤ 601024; omega) | (show _ ≤ 7293034; omega)) dL_law_1097 (sX8_clashesIn hM) (fun r h4 hq => ?_) (fun x h9 hq => hq.elim)
  obtain ⟨z3, rfl, hM⟩ := hq
  refine zV_istore O dL_law_1100 (by first | exact Nat.le_of_ble_eq_true rfl | (show _ ≤ 601024; omega) | (show _ ≤ 7293034; omega)) rfl ?_
  refine zV_aload_n O dL_law_1102 rfl rfl ?_
  refine zV_callV (as := []) (st := []) O zc_X8_thrown (Or.inl zl_RL_100) zi_1295 zi_1296 zt_185 rfl rfl (by decide) (by first | exact Nat.le_of_ble_eq_true rfl | (show _ ≤ 601024; omega) | (show _ ≤ 7293034; omega)) rfl rfl (by first | exact Nat.le_of_ble_eq_true rfl | (show _ ≤ 601024; omega) | (show _ ≤ 7293034; omega)) (by first | exact Nat.le_of_ble_eq_true rfl | (show _ ≤ 601024; omega) | (show _ ≤ 7293034; omega)) (by first | exact Nat.le_of_ble_eq_true rfl | (show _ ≤ 601024; omega) | (show _ ≤ 7293034; omega)) (by first | exact Nat.le_of_ble_eq_true rfl | (show _ ≤ 601024; omega) | (show _ ≤ 7293034; omega)) (by first | exact Nat.le_of_ble_eq_true rfl | (show _ ≤ 601024; omega) | (show _ ≤ 7293034; omega)) (by first | exact Nat.le_of_ble_eq_true rfl | (show _ ≤ 601024; omega) | (show _ ≤ 7293034; omega)) dL_law_1103 (sX8_thrown hM) (fun r h9 hq => ?_) (fun x h9 hq => hq.elim)
  obtain ⟨rfl, z5, rfl, hM⟩ := hq
  refine zV_iload O dL_law_1106 rfl ?_
  refine zV_icmp_eq (tgt := 1113) O dL_law_1108 (by decide) (fun hc => ?_) (fun hc => ?_)
  · replace hM := hM.1 hc
    refine zV_iload O dL_law_1113 rfl ?_
    refine zV_if_ne (tgt := 1130) O dL_law_1115 (by decide) (fun hc => ?_) (fun hc => ?_)
    · replace hM := hM.1 hc
      refine zV_goto (tgt := 2046) O dL_law_1130 (by decide) ?_
      refine zV_sub (ls2 := [some (aA (b + 1)), some (aR 169), some (aR 185), some (aR 197), some (aI v4), none, none, none, none]) ⟨rfl, rfl, rfl, rfl, rfl, trivial⟩ ?_
      exact hK _ _ _ _ (by omega) (by omega) hM
    · replace hM := hM.2 hc
      refine zV_aload_n O dL_law_1118 rfl rfl ?_
      refine zV_iconst (z := 0) O ⟨by omega, by omega⟩ dL_law_1119 ?_
      obtain ⟨hc, hM⟩ := hM
      refine zV_lald O zt_197 (by decide) hc dL_law_1120 ?_
      refine zV_iload O dL_law_1121 rfl ?_
      refine zV_i2l O dL_law_1123 ?_
      refine zV_lcmp O dL_law_1124 ?_
      refine zV_if_eq (tgt := 1130) O dL_law_1125 (by decide) (fun hc => ?_) (fun hc => ?_)
      · replace hM := hM.1 hc
        refine zV_goto (tgt := 2046) O dL_law_1130 (by decide) ?_
        refine zV_sub (ls2 := [some (aA (b + 1)), some (aR 169), some (aR 185), some (aR 197), some (aI v4), none, none, none, none]) ⟨rfl, rfl, rfl, rfl, rfl, trivial⟩ ?_
        exact hK _ _ _ _ (by omega) (by omega) hM
      · replace hM := hM.2 hc
        refine zV_iconst (z := 0) O ⟨by omega, by omega⟩ dL_law_1128 ?_
        exact zV_zret O rfl (Or.inl rfl) ⟨_, rfl, (Or.inl rfl), hM⟩ (by first | exact Nat.le_of_ble_eq_true rfl | (show _ ≤ 601024; omega) | (show _ ≤ 7293034; omega)) (by first | exact Nat.le_of_ble_eq_true rfl | (show _ ≤ 601024; omega) | (show _ ≤ 7293034; omega)) dL_law_1129
  · replace hM := hM.2 hc
    refine zV_iconst (z := 0) O ⟨by omega, by omega⟩ dL_law_1111 ?_
    exact zV_zret O rfl (Or.inl rfl) ⟨_, rfl, (Or.inl rfl), hM⟩ (by first | exact Nat.le_of_ble_eq_true rfl | (show _ ≤ 601024; omega) | (show _ ≤ 7293034; omega)) (by first | exact Nat.le_of_ble_eq_true rfl | (show _ ≤ 601024; omega) | (show _ ≤ 7293034; omega)) dL_law_1112
def mW_18 (sc : Int → Int) (L : Int) (Q : Int → Hp → Prop) (K : Int → Hp → Prop) (v4 : Int) (h : Hp) : Prop := (mX7_openIn h (fun z1 h2 => (mX8_openIn h2 (fun z3 h4 => ((z1 = z3 → (K v4 h4)) ∧ (¬ z1 = z3 → (Q 0 h4)))))))
set_option maxHeartbeats 4000000 in
set_option maxRecDepth 100000 in
theorem sW_18 {l0 : Launch} {a : ZC} {b : Nat} {L : Int} {sc : Int → Int} {Q : Int → Hp → Prop} {K : Int → Hp → Prop} {k n : Nat} {v4 : Int} {h : Hp} (O : zOk l0 a cL_law RL 9 (some .boolean) 198 []) (hS : zScr a b L sc) (hk : k ≤ 600000) (hn : n ≤ 7200000) (hK : ∀ (k2 n2 : Nat) (v4 : Int) (h : Hp), k2 ≤ k + 1 → n2 ≤ n + 6 → K v4 h → zV a (2048, 601024, 7293034, (qZ Q), xN) k2 n2 2046 [some (aA (b + 1)), some (aR 169), some (aR 185), some (aR 197), some (aI v4), none, none, none, none] [] h) (hM : mW_18 sc L Q K v4 h) : zV a (2048, 601024, 7293034, (qZ Q), xN) k n 1133 [some (aA (b + 1)), some (aR 169), some (aR 185), some (aR 197), some (aI v4), none, none, none, none] [] h := by
  unfold mW_18 at hM
  refine zV_aload_n O dL_law_1133 rfl rfl ?_
  refine zV_callV (as := []) (st := []) O zc_X7_openIn (Or.inl zl_RL_159) zi_592 zi_593 zt_169 rfl rfl (by decide) (by first | exact Nat.le_of_ble_eq_true rfl | (show _ ≤ 601024; omega) | (show _ ≤ 7293034; omega)) rfl rfl (by first | exact Nat.le_of_ble_eq_true rfl | (show _ ≤ 601024; omega) | (show _ ≤ 7293034; omega)) (by first | exact Nat.le_of_ble_eq_true rfl | (show _ ≤ 601024; omega) | (show _ ≤ 7293034; omega)) (by first | exact Nat.le_of_ble_eq_true rfl | (show _ ≤ 601024; omega) | (show _ ≤ 7293034; omega)) (by first | exact Nat.le_of_ble_eq_true rfl | (show _ ≤ 601024; omega) | (show _ ≤ 7293034; omega)) (by first | exact Nat.le_of_ble_eq_true rfl | (show _ ≤ 601024; omega) | (show _ ≤ 7293034; omega)) (by first | exact Nat.le_of_ble_eq_true rfl | (show _ ≤ 601024; omega) | (show _ ≤ 7293034; omega)) dL_law_1134 (sX7_openIn hM) (fun r h2 hq => ?_) (fun x h9 hq => hq.elim)
  obtain ⟨z1, rfl, hM⟩ := hq
  refine zV_aload_n O dL_law_1137 rfl rfl ?_
  refine zV_callV (as := []) (st := [aI z1]) O zc_X8_openIn (Or.inl zl_RL_162) zi_1731 zi_1732 zt_185 rfl rfl (by decide) (by first | exact Nat.le_of_ble_eq_true rfl | (show _ ≤ 601024; omega) | (show _ ≤ 7293034; omega)) rfl rfl (by first | exact Nat.le_of_ble_eq_true rfl | (show _ ≤ 601024; omega) | (show _ ≤ 7293034; omega)) (by first | exact Nat.le_of_ble_eq_true rfl | (show _ ≤ 601024; omega) | (show _ ≤ 7293034; omega)) (by first | exact Nat.le_of_ble_eq_true rfl | (show _ ≤ 601024; omega) | (show _ ≤ 7293034; omega)) (by first | exact Nat.le_of_ble_eq_true rfl | (show _ ≤ 601024; omega) | (show _ ≤ 7293034; omega)) (by first | exact Nat.le_of_ble_eq_true rfl | (show _ ≤ 601024; omega) | (show _ ≤ 7293034; omega)) (by first | exact Nat.le_of_ble_eq_true rfl | (show _ ≤ 601024; omega) | (show _ ≤ 7293034; omega)) dL_law_1138 (sX8_openIn hM) (fun r h4 hq => ?_) (fun x h9 hq => hq.elim)
  obtain ⟨z3, rfl, hM⟩ := hq
  refine zV_icmp_eq (tgt := 2046) O dL_law_1141 (by decide) (fun hc => ?_) (fun hc => ?_)
  · replace hM := hM.1 hc
    refine zV_sub (ls2 := [some (aA (b + 1)), some (aR 169), some (aR 185), some (aR 197), some (aI v4), none, none, none, none]) ⟨rfl, rfl, rfl, rfl, rfl, trivial⟩ ?_
    exact hK _ _ _ _ (by omega) (by omega) hM
  · replace hM := hM.2 hc
    refine zV_iconst (z := 0) O ⟨by omega, by omega⟩ dL_law_1144 ?_
    exact zV_zret O rfl (Or.inl rfl) ⟨_, rfl, (Or.inl rfl), hM⟩ (by first | exact Nat.le_of_ble_eq_true rfl | (show _ ≤ 601024; omega) | (show _ ≤ 7293034; omega)) (by first | exact Nat.le_of_ble_eq_true rfl | (show _ ≤ 601024; omega) | (show _ ≤ 7293034; omega)) dL_law_1145
def mW_19 (sc : Int → Int) (L : Int) (Q : Int → Hp → Prop) (K : Int → Hp → Prop) (v4 : Int) (h : Hp) : Prop := (mX7_movedShare h (fun z1 => (vf_n64 (FP.f2d z1) ∧ (mX8_movedShare h (fun z2 h3 => (vf_n64 (FP.f2d z2) ∧ (((zdcmp (FP.f2d z1) (FP.f2d z2) .l) = 0 → (K v4 h3)) ∧ (¬ (zdcmp (FP.f2d z1) (FP.f2d z2) .l) = 0 → (((zdcmp (FP.f2d z1) (FP.f2d z1) .l) = 0 → (Q 0 h3)) ∧ (¬ (zdcmp (FP.f2d z1) (FP.f2d z1) .l) = 0 → ((¬ (zdcmp (FP.f2d z2) (FP.f2d z2) .l) = 0 → (K v4 h3)) ∧ ((zdcmp (FP.f2d z2) (FP.f2d z2) .l) = 0 → (Q 0 h3)))))))))))))
set_option maxHeartbeats 4000000 in
set_option maxRecDepth 100000 in
theorem sW_19 {l0 : Launch} {a : ZC} {b : Nat} {L : Int} {sc : Int → Int} {Q : Int → Hp → Prop} {K : Int → Hp → Prop} {k n : Nat} {v4 : Int} {h : Hp} (O : zOk l0 a cL_law RL 9 (some .boolean) 198 []) (hS : zScr a b L sc) (hk : k ≤ 600000) (hn : n ≤ 7200000) (hK : ∀ (k2 n2 : Nat) (v4 : Int) (h : Hp), k2 ≤ k + 1 → n2 ≤ n + 6 → K v4 h → zV a (2048, 601024, 7293034, (qZ Q), xN) k2 n2 2046 [some (aA (b + 1)), some (aR 169), some (aR 185), some (aR 197), some (aI v4), none, none, none, none] [] h) (hM : mW_19 sc L Q K v4 h) : zV a (2048, 601024, 7293034, (qZ Q), xN) k n 1146 [some (aA (b + 1)), some (aR 169), some (aR 185), some (aR 197), some (aI v4), none, none, none, none] [] h := by
  unfold mW_19 at hM
  refine zV_aload_n O dL_law_1146 rfl rfl ?_
  refine zV_callV (as := []) (st := []) O zc_X7_movedShare (Or.inl zl_RL_163) zi_604 zi_605 zt_169 rfl rfl (by decide) (by first | exact Nat.le_of_ble_eq_true rfl | (show _ ≤ 601024; omega) | (show _ ≤ 7293034; omega)) rfl rfl (by first | exact Nat.le_of_ble_eq_true rfl | (show _ ≤ 601024; omega) | (show _ ≤ 7293034; omega)) (by first | exact Nat.le_of_ble_eq_true rfl | (show _ ≤ 601024; omega) | (show _ ≤ 7293034; omega)) (by first | exact Nat.le_of_ble_eq_true rfl | (show _ ≤ 601024; omega) | (show _ ≤ 7293034; omega)) (by first | exact Nat.le_of_ble_eq_true rfl | (show _ ≤ 601024; omega) | (show _ ≤ 7293034; omega)) (by first | exact Nat.le_of_ble_eq_true rfl | (show _ ≤ 601024; omega) | (show _ ≤ 7293034; omega)) (by first | exact Nat.le_of_ble_eq_true rfl | (show _ ≤ 601024; omega) | (show _ ≤ 7293034; omega)) dL_law_1147 (sX7_movedShare hM) (fun r h9 hq => ?_) (fun x h9 hq => hq.elim)
  obtain ⟨rfl, z1, rfl, hM⟩ := hq
  obtain ⟨hc, hM⟩ := hM
  refine zV_f2d O dL_law_1150 hc ?_
  refine zV_dstore O dL_law_1151 (by first | exact Nat.le_of_ble_eq_true rfl | (show _ ≤ 601024; omega) | (show _ ≤ 7293034; omega)) rfl ?_
  refine zV_aload_n O dL_law_1153 rfl rfl ?_
  refine zV_callV (as := []) (st := []) O zc_X8_movedShare (Or.inl zl_RL_167) zi_1735 zi_1736 zt_185 rfl rfl (by decide) (by first | exact Nat.le_of_ble_eq_true rfl | (show _ ≤ 601024; omega) | (show _ ≤ 7293034; omega)) rfl rfl (by first | exact Nat.le_of_ble_eq_true rfl | (show _ ≤ 601024; omega) | (show _ ≤ 7293034; omega)) (by first | exact Nat.le_of_ble_eq_true rfl | (show _ ≤ 601024; omega) | (show _ ≤ 7293034; omega)) (by first | exact Nat.le_of_ble_eq_true rfl | (show _ ≤ 601024; omega) | (show _ ≤ 7293034; omega)) (by first | exact Nat.le_of_ble_eq_true rfl | (show _ ≤ 601024; omega) | (show _ ≤ 7293034; omega)) (by first | exact Nat.le_of_ble_eq_true rfl | (show _ ≤ 601024; omega) | (show _ ≤ 7293034; omega)) (by first | exact Nat.le_of_ble_eq_true rfl | (show _ ≤ 601024; omega) | (show _ ≤ 7293034; omega)) dL_law_1154 (sX8_movedShare hM) (fun r h3 hq => ?_) (fun x h9 hq => hq.elim)
  obtain ⟨z2, rfl, hM⟩ := hq
  obtain ⟨hc, hM⟩ := hM
  refine zV_f2d O dL_law_1157 hc ?_
  refine zV_dstore O dL_law_1158 (by first | exact Nat.le_of_ble_eq_true rfl | (show _ ≤ 601024; omega) | (show _ ≤ 7293034; omega)) rfl ?_
  refine zV_dload O dL_law_1160 rfl ?_
  refine zV_dload O dL_law_1162 rfl ?_
  refine zV_dcmp O dL_law_1164 ?_
  refine zV_if_eq (tgt := 1186) O dL_law_1165 (by decide) (fun hc => ?_) (fun hc => ?_)
  · replace hM := hM.1 hc
    refine zV_goto (tgt := 2046) O dL_law_1186 (by decide) ?_
    refine zV_sub (ls2 := [some (aA (b + 1)), some (aR 169), some (aR 185), some (aR 197), some (aI v4), none, none, none, none]) ⟨rfl, rfl, rfl, rfl, rfl, trivial⟩ ?_
    exact hK _ _ _ _ (by omega) (by omega) hM
  · replace hM := hM.2 hc
    refine zV_dload O dL_law_1168 rfl ?_
    refine zV_dload O dL_law_1170 rfl ?_
    refine zV_dcmp O dL_law_1172 ?_
    refine zV_if_eq (tgt := 1184) O dL_law_1173 (by decide) (fun hc => ?_) (fun hc => ?_)
    · replace hM := hM.1 hc
      refine zV_iconst (z := 0) O ⟨by omega, by omega⟩ dL_law_1184 ?_
      exact zV_zret O rfl (Or.inl rfl) ⟨_, rfl, (Or.inl rfl), hM⟩ (by first | exact Nat.le_of_ble_eq_true rfl | (show _ ≤ 601024; omega) | (show _ ≤ 7293034; omega)) (by first | exact Nat.le_of_ble_eq_true rfl | (show _ ≤ 601024; omega) | (show _ ≤ 7293034; omega)) dL_law_1185
    · replace hM := hM.2 hc
      refine zV_dload O dL_law_1176 rfl ?_
      refine zV_dload O dL_law_1178 rfl ?_
      refine zV_dcmp O dL_law_1180 ?_
      refine zV_if_ne (tgt := 1186) O dL_law_1181 (by decide) (fun hc => ?_) (fun hc => ?_)
      · replace hM := hM.1 hc
        refine zV_goto (tgt := 2046) O dL_law_1186 (by decide) ?_
        refine zV_sub (ls2 := [some (aA (b + 1)), some (aR 169), some (aR 185), some (aR 197), some (aI v4), none, none, none, none]) ⟨rfl, rfl, rfl, rfl, rfl, trivial⟩ ?_
        exact hK _ _ _ _ (by omega) (by omega) hM
      · replace hM := hM.2 hc
        refine zV_iconst (z := 0) O ⟨by omega, by omega⟩ dL_law_1184 ?_
        exact zV_zret O rfl (Or.inl rfl) ⟨_, rfl, (Or.inl rfl), hM⟩ (by first | exact Nat.le_of_ble_eq_true rfl | (show _ ≤ 601024; omega) | (show _ ≤ 7293034; omega)) (by first | exact Nat.le_of_ble_eq_true rfl | (show _ ≤ 601024; omega) | (show _ ≤ 7293034; omega)) dL_law_1185
def mW_20 (sc : Int → Int) (L : Int) (Q : Int → Hp → Prop) (K : Int → Hp → Prop) (v4 : Int) (h : Hp) : Prop := (mX7_meanReach h (fun z1 => (mX8_meanReach h (fun z2 h3 => (((zdcmp z1 z2 .l) = 0 → (K v4 h3)) ∧ (¬ (zdcmp z1 z2 .l) = 0 → (((zdcmp z1 z1 .l) = 0 → (Q 0 h3)) ∧ (¬ (zdcmp z1 z1 .l) = 0 → ((¬ (zdcmp z2 z2 .l) = 0 → (K v4 h3)) ∧ ((zdcmp z2 z2 .l) = 0 → (Q 0 h3)))))))))))
set_option maxHeartbeats 4000000 in
set_option maxRecDepth 100000 in
theorem sW_20 {l0 : Launch} {a : ZC} {b : Nat} {L : Int} {sc : Int → Int} {Q : Int → Hp → Prop} {K : Int → Hp → Prop} {k n : Nat} {v4 : Int} {h : Hp} (O : zOk l0 a cL_law RL 9 (some .boolean) 198 []) (hS : zScr a b L sc) (hk : k ≤ 600000) (hn : n ≤ 7200000) (hK : ∀ (k2 n2 : Nat) (v4 : Int) (h : Hp), k2 ≤ k + 1 → n2 ≤ n + 6 → K v4 h → zV a (2048, 601024, 7293034, (qZ Q), xN) k2 n2 2046 [some (aA (b + 1)), some (aR 169), some (aR 185), some (aR 197), some (aI v4), none, none, none, none] [] h) (hM : mW_20 sc L Q K v4 h) : zV a (2048, 601024, 7293034, (qZ Q), xN) k n 1189 [some (aA (b + 1)), some (aR 169), some (aR 185), some (aR 197), some (aI v4), none, none, none, none] [] h := by
  unfold mW_20 at hM
  refine zV_aload_n O dL_law_1189 rfl rfl ?_
  refine zV_callV (as := []) (st := []) O zc_X7_meanReach (Or.inl zl_RL_168) zi_612 zi_613 zt_169 rfl rfl (by decide) (by first | exact Nat.le_of_ble_eq_true rfl | (show _ ≤ 601024; omega) | (show _ ≤ 7293034; omega)) rfl rfl (by first | exact Nat.le_of_ble_eq_true rfl | (show _ ≤ 601024; omega) | (show _ ≤ 7293034; omega)) (by first | exact Nat.le_of_ble_eq_true rfl | (show _ ≤ 601024; omega) | (show _ ≤ 7293034; omega)) (by first | exact Nat.le_of_ble_eq_true rfl | (show _ ≤ 601024; omega) | (show _ ≤ 7293034; omega)) (by first | exact Nat.le_of_ble_eq_true rfl | (show _ ≤ 601024; omega) | (show _ ≤ 7293034; omega)) (by first | exact Nat.le_of_ble_eq_true rfl | (show _ ≤ 601024; omega) | (show _ ≤ 7293034; omega)) (by first | exact Nat.le_of_ble_eq_true rfl | (show _ ≤ 601024; omega) | (show _ ≤ 7293034; omega)) dL_law_1190 (sX7_meanReach hM) (fun r h9 hq => ?_) (fun x h9 hq => hq.elim)
  obtain ⟨rfl, z1, rfl, hM⟩ := hq
  refine zV_dstore O dL_law_1193 (by first | exact Nat.le_of_ble_eq_true rfl | (show _ ≤ 601024; omega) | (show _ ≤ 7293034; omega)) rfl ?_
  refine zV_aload_n O dL_law_1195 rfl rfl ?_
  refine zV_callV (as := []) (st := []) O zc_X8_meanReach (Or.inl zl_RL_172) zi_1739 zi_1740 zt_185 rfl rfl (by decide) (by first | exact Nat.le_of_ble_eq_true rfl | (show _ ≤ 601024; omega) | (show _ ≤ 7293034; omega)) rfl rfl (by first | exact Nat.le_of_ble_eq_true rfl | (show _ ≤ 601024; omega) | (show _ ≤ 7293034; omega)) (by first | exact Nat.le_of_ble_eq_true rfl | (show _ ≤ 601024; omega) | (show _ ≤ 7293034; omega)) (by first | exact Nat.le_of_ble_eq_true rfl | (show _ ≤ 601024; omega) | (show _ ≤ 7293034; omega)) (by first | exact Nat.le_of_ble_eq_true rfl | (show _ ≤ 601024; omega) | (show _ ≤ 7293034; omega)) (by first | exact Nat.le_of_ble_eq_true rfl | (show _ ≤ 601024; omega) | (show _ ≤ 7293034; omega)) (by first | exact Nat.le_of_ble_eq_true rfl | (show _ ≤ 601024; omega) | (show _ ≤ 7293034; omega)) dL_law_1196 (sX8_meanReach hM) (fun r h3 hq => ?_) (fun x h9 hq => hq.elim)
  obtain ⟨z2, rfl, hM⟩ := hq
  refine zV_dstore O dL_law_1199 (by first | exact Nat.le_of_ble_eq_true rfl | (show _ ≤ 601024; omega) | (show _ ≤ 7293034; omega)) rfl ?_
  refine zV_dload O dL_law_1201 rfl ?_
  refine zV_dload O dL_law_1203 rfl ?_
  refine zV_dcmp O dL_law_1205 ?_
  refine zV_if_eq (tgt := 1227) O dL_law_1206 (by decide) (fun hc => ?_) (fun hc => ?_)
  · replace hM := hM.1 hc
    refine zV_goto (tgt := 2046) O dL_law_1227 (by decide) ?_
    refine zV_sub (ls2 := [some (aA (b + 1)), some (aR 169), some (aR 185), some (aR 197), some (aI v4), none, none, none, none]) ⟨rfl, rfl, rfl, rfl, rfl, trivial⟩ ?_
    exact hK _ _ _ _ (by omega) (by omega) hM
  · replace hM := hM.2 hc
    refine zV_dload O dL_law_1209 rfl ?_
    refine zV_dload O dL_law_1211 rfl ?_
    refine zV_dcmp O dL_law_1213 ?_
    refine zV_if_eq (tgt := 1225) O dL_law_1214 (by decide) (fun hc => ?_) (fun hc => ?_)
    · replace hM := hM.1 hc
      refine zV_iconst (z := 0) O ⟨by omega, by omega⟩ dL_law_1225 ?_
      exact zV_zret O rfl (Or.inl rfl) ⟨_, rfl, (Or.inl rfl), hM⟩ (by first | exact Nat.le_of_ble_eq_true rfl | (show _ ≤ 601024; omega) | (show _ ≤ 7293034; omega)) (by first | exact Nat.le_of_ble_eq_true rfl | (show _ ≤ 601024; omega) | (show _ ≤ 7293034; omega)) dL_law_1226
    · replace hM := hM.2 hc
      refine zV_dload O dL_law_1217 rfl ?_
      refine zV_dload O dL_law_1219 rfl ?_
      refine zV_dcmp O dL_law_1221 ?_
      refine zV_if_ne (tgt := 1227) O dL_law_1222 (by decide) (fun hc => ?_) (fun hc => ?_)
      · replace hM := hM.1 hc
        refine zV_goto (tgt := 2046) O dL_law_1227 (by decide) ?_
        refine zV_sub (ls2 := [some (aA (b + 1)), some (aR 169), some (aR 185), some (aR 197), some (aI v4), none, none, none, none]) ⟨rfl, rfl, rfl, rfl, rfl, trivial⟩ ?_
        exact hK _ _ _ _ (by omega) (by omega) hM
      · replace hM := hM.2 hc
        refine zV_iconst (z := 0) O ⟨by omega, by omega⟩ dL_law_1225 ?_
        exact zV_zret O rfl (Or.inl rfl) ⟨_, rfl, (Or.inl rfl), hM⟩ (by first | exact Nat.le_of_ble_eq_true rfl | (show _ ≤ 601024; omega) | (show _ ≤ 7293034; omega)) (by first | exact Nat.le_of_ble_eq_true rfl | (show _ ≤ 601024; omega) | (show _ ≤ 7293034; omega)) dL_law_1226
def mW_21 (sc : Int → Int) (L : Int) (Q : Int → Hp → Prop) (K : Int → Hp → Prop) (v4 : Int) (h : Hp) : Prop := (zr (v4 + 1) ∧ (((0 : Int) ≤ (v4 + 1) ∧ (v4 + 1) < L) ∧ (zr (v4 + 2) ∧ (((0 : Int) ≤ (v4 + 2) ∧ (v4 + 2) < L) ∧ (mL_addHost (sc (v4 + 1)) (sc (v4 + 2)) h (fun z1 h2 => (zr (v4 + 1) ∧ (((0 : Int) ≤ (v4 + 1) ∧ (v4 + 1) < L) ∧ (zr (v4 + 2) ∧ (((0 : Int) ≤ (v4 + 2) ∧ (v4 + 2) < L) ∧ (mX8_addHost (sc (v4 + 1)) (sc (v4 + 2)) h2 (fun z3 h4 => (mX8_thrown h4 (fun z5 => ((z5 = z1 → ((¬ z1 = 0 → (K v4 h4)) ∧ (z1 = 0 → (((0 : Int) ≤ 0 ∧ (0 : Int) < 1) ∧ (((zlcmp (rd h4 197 0) z3) = 0 → (K v4 h4)) ∧ (¬ (zlcmp (rd h4 197 0) z3) = 0 → (Q 0 h4))))))) ∧ (¬ z5 = z1 → (Q 0 h4)))))))))))))))))
set_option maxHeartbeats 4000000 in
set_option maxRecDepth 100000 in
theorem sW_21 {l0 : Launch} {a : ZC} {b : Nat} {L : Int} {sc : Int → Int} {Q : Int → Hp → Prop} {K : Int → Hp → Prop} {k n : Nat} {v4 : Int} {h : Hp} (O : zOk l0 a cL_law RL 9 (some .boolean) 198 []) (hS : zScr a b L sc) (hk : k ≤ 600000) (hn : n ≤ 7200000) (hK : ∀ (k2 n2 : Nat) (v4 : Int) (h : Hp), k2 ≤ k + 1 → n2 ≤ n + 6 → K v4 h → zV a (2048, 601024, 7293034, (qZ Q), xN) k2 n2 2046 [some (aA (b + 1)), some (aR 169), some (aR 185), some (aR 197), some (aI v4), none, none, none, none] [] h) (hM : mW_21 sc L Q K v4 h) : zV a (2048, 601024, 7293034, (qZ Q), xN) k n 1230 [some (aA (b + 1)), some (aR 169), some (aR 185), some (aR 197), some (aI v4), none, none, none, none] [] h := by
  unfold mW_21 at hM
  refine zV_aload_n O dL_law_1230 rfl rfl ?_
  refine zV_aload_n O dL_law_1231 rfl rfl ?_
  refine zV_iload O dL_law_1232 rfl ?_
  refine zV_iconst (z := 1) O ⟨by omega, by omega⟩ dL_law_1234 ?_
  obtain ⟨hc, hM⟩ := hM
  refine zV_iadd O dL_law_1235 hc ?_
  obtain ⟨hc, hM⟩ := hM
  refine zV_sld O hS hc dL_law_1236 ?_
  refine zV_aload_n O dL_law_1237 rfl rfl ?_
  refine zV_iload O dL_law_1238 rfl ?_
  refine zV_iconst (z := 2) O ⟨by omega, by omega⟩ dL_law_1240 ?_
  obtain ⟨hc, hM⟩ := hM
  refine zV_iadd O dL_law_1241 hc ?_
  obtain ⟨hc, hM⟩ := hM
  refine zV_sld O hS hc dL_law_1242 ?_
  refine zV_aload_n O dL_law_1243 rfl rfl ?_
  refine zV_callSH (as := [aR 169, aI (sc (v4 + 1)), aI (sc (v4 + 2)), aR 197]) (st := []) O zch_L_addHost.1 zch_L_addHost.2.1 zch_L_addHost.2.2.1 zch_L_addHost.2.2.2 zl_RL_173 zi_1110 (by first | exact Nat.le_of_ble_eq_true rfl | (show _ ≤ 601024; omega) | (show _ ≤ 7293034; omega)) rfl rfl (by first | exact Nat.le_of_ble_eq_true rfl | (show _ ≤ 601024; omega) | (show _ ≤ 7293034; omega)) (by first | exact Nat.le_of_ble_eq_true rfl | (show _ ≤ 601024; omega) | (show _ ≤ 7293034; omega)) (by first | exact Nat.le_of_ble_eq_true rfl | (show _ ≤ 601024; omega) | (show _ ≤ 7293034; omega)) (by first | exact Nat.le_of_ble_eq_true rfl | (show _ ≤ 601024; omega) | (show _ ≤ 7293034; omega)) (by first | exact Nat.le_of_ble_eq_true rfl | (show _ ≤ 601024; omega) | (show _ ≤ 7293034; omega)) (by first | exact Nat.le_of_ble_eq_true rfl | (show _ ≤ 601024; omega) | (show _ ≤ 7293034; omega)) dL_law_1244 (sL_addHost hM) (fun r h2 hq => ?_) (fun x h9 hq => hq.elim)
  obtain ⟨z1, rfl, hM⟩ := hq
  refine zV_istore O dL_law_1247 (by first | exact Nat.le_of_ble_eq_true rfl | (show _ ≤ 601024; omega) | (show _ ≤ 7293034; omega)) rfl ?_
  refine zV_aload_n O dL_law_1249 rfl rfl ?_
  refine zV_aload_n O dL_law_1250 rfl rfl ?_
  refine zV_iload O dL_law_1251 rfl ?_
  refine zV_iconst (z := 1) O ⟨by omega, by omega⟩ dL_law_1253 ?_
  obtain ⟨hc, hM⟩ := hM
  refine zV_iadd O dL_law_1254 hc ?_
  obtain ⟨hc, hM⟩ := hM
  refine zV_sld O hS hc dL_law_1255 ?_
  refine zV_aload_n O dL_law_1256 rfl rfl ?_
  refine zV_iload O dL_law_1257 rfl ?_
  refine zV_iconst (z := 2) O ⟨by omega, by omega⟩ dL_law_1259 ?_
  obtain ⟨hc, hM⟩ := hM
  refine zV_iadd O dL_law_1260 hc ?_
  obtain ⟨hc, hM⟩ := hM
  refine zV_sld O hS hc dL_law_1261 ?_
  refine zV_callV (as := [aI (sc (v4 + 1)), aI (sc (v4 + 2))]) (st := []) O zc_X8_addHost (Or.inl zl_RL_175) zi_1743 zi_1744 zt_185 rfl rfl (by decide) (by first | exact Nat.le_of_ble_eq_true rfl | (show _ ≤ 601024; omega) | (show _ ≤ 7293034; omega)) rfl rfl (by first | exact Nat.le_of_ble_eq_true rfl | (show _ ≤ 601024; omega) | (show _ ≤ 7293034; omega)) (by first | exact Nat.le_of_ble_eq_true rfl | (show _ ≤ 601024; omega) | (show _ ≤ 7293034; omega)) (by first | exact Nat.le_of_ble_eq_true rfl | (show _ ≤ 601024; omega) | (show _ ≤ 7293034; omega)) (by first | exact Nat.le_of_ble_eq_true rfl | (show _ ≤ 601024; omega) | (show _ ≤ 7293034; omega)) (by first | exact Nat.le_of_ble_eq_true rfl | (show _ ≤ 601024; omega) | (show _ ≤ 7293034; omega)) (by first | exact Nat.le_of_ble_eq_true rfl | (show _ ≤ 601024; omega) | (show _ ≤ 7293034; omega)) dL_law_1262 (sX8_addHost hM) (fun r h4 hq => ?_) (fun x h9 hq => hq.elim)
  obtain ⟨z3, rfl, hM⟩ := hq
  refine zV_istore O dL_law_1265 (by first | exact Nat.le_of_ble_eq_true rfl | (show _ ≤ 601024; omega) | (show _ ≤ 7293034; omega)) rfl ?_
  refine zV_aload_n O dL_law_1267 rfl rfl ?_
  refine zV_callV (as := []) (st := []) O zc_X8_thrown (Or.inl zl_RL_100) zi_1295 zi_1296 zt_185 rfl rfl (by decide) (by first | exact Nat.le_of_ble_eq_true rfl | (show _ ≤ 601024; omega) | (show _ ≤ 7293034; omega)) rfl rfl (by first | exact Nat.le_of_ble_eq_true rfl | (show _ ≤ 601024; omega) | (show _ ≤ 7293034; omega)) (by first | exact Nat.le_of_ble_eq_true rfl | (show _ ≤ 601024; omega) | (show _ ≤ 7293034; omega)) (by first | exact Nat.le_of_ble_eq_true rfl | (show _ ≤ 601024; omega) | (show _ ≤ 7293034; omega)) (by first | exact Nat.le_of_ble_eq_true rfl | (show _ ≤ 601024; omega) | (show _ ≤ 7293034; omega)) (by first | exact Nat.le_of_ble_eq_true rfl | (show _ ≤ 601024; omega) | (show _ ≤ 7293034; omega)) (by first | exact Nat.le_of_ble_eq_true rfl | (show _ ≤ 601024; omega) | (show _ ≤ 7293034; omega)) dL_law_1268 (sX8_thrown hM) (fun r h9 hq => ?_) (fun x h9 hq => hq.elim)
  obtain ⟨rfl, z5, rfl, hM⟩ := hq
  refine zV_iload O dL_law_1271 rfl ?_
  refine zV_icmp_eq (tgt := 1278) O dL_law_1273 (by decide) (fun hc => ?_) (fun hc => ?_)
  · replace hM := hM.1 hc
    refine zV_iload O dL_law_1278 rfl ?_
    refine zV_if_ne (tgt := 1295) O dL_law_1280 (by decide) (fun hc => ?_) (fun hc => ?_)
    · replace hM := hM.1 hc
      refine zV_goto (tgt := 2046) O dL_law_1295 (by decide) ?_
      refine zV_sub (ls2 := [some (aA (b + 1)), some (aR 169), some (aR 185), some (aR 197), some (aI v4), none, none, none, none]) ⟨rfl, rfl, rfl, rfl, rfl, trivial⟩ ?_
      exact hK _ _ _ _ (by omega) (by omega) hM
    · replace hM := hM.2 hc
      refine zV_aload_n O dL_law_1283 rfl rfl ?_
      refine zV_iconst (z := 0) O ⟨by omega, by omega⟩ dL_law_1284 ?_
      obtain ⟨hc, hM⟩ := hM
      refine zV_lald O zt_197 (by decide) hc dL_law_1285 ?_
      refine zV_iload O dL_law_1286 rfl ?_
      refine zV_i2l O dL_law_1288 ?_
      refine zV_lcmp O dL_law_1289 ?_
      refine zV_if_eq (tgt := 1295) O dL_law_1290 (by decide) (fun hc => ?_) (fun hc => ?_)
      · replace hM := hM.1 hc
        refine zV_goto (tgt := 2046) O dL_law_1295 (by decide) ?_
        refine zV_sub (ls2 := [some (aA (b + 1)), some (aR 169), some (aR 185), some (aR 197), some (aI v4), none, none, none, none]) ⟨rfl, rfl, rfl, rfl, rfl, trivial⟩ ?_
        exact hK _ _ _ _ (by omega) (by omega) hM
      · replace hM := hM.2 hc
        refine zV_iconst (z := 0) O ⟨by omega, by omega⟩ dL_law_1293 ?_
        exact zV_zret O rfl (Or.inl rfl) ⟨_, rfl, (Or.inl rfl), hM⟩ (by first | exact Nat.le_of_ble_eq_true rfl | (show _ ≤ 601024; omega) | (show _ ≤ 7293034; omega)) (by first | exact Nat.le_of_ble_eq_true rfl | (show _ ≤ 601024; omega) | (show _ ≤ 7293034; omega)) dL_law_1294
  · replace hM := hM.2 hc
    refine zV_iconst (z := 0) O ⟨by omega, by omega⟩ dL_law_1276 ?_
    exact zV_zret O rfl (Or.inl rfl) ⟨_, rfl, (Or.inl rfl), hM⟩ (by first | exact Nat.le_of_ble_eq_true rfl | (show _ ≤ 601024; omega) | (show _ ≤ 7293034; omega)) (by first | exact Nat.le_of_ble_eq_true rfl | (show _ ≤ 601024; omega) | (show _ ≤ 7293034; omega)) dL_law_1277
def mW_22 (sc : Int → Int) (L : Int) (Q : Int → Hp → Prop) (K : Int → Hp → Prop) (v4 : Int) (h : Hp) : Prop := (zr (v4 + 1) ∧ (((0 : Int) ≤ (v4 + 1) ∧ (v4 + 1) < L) ∧ (mL_removeHost (sc (v4 + 1)) h (fun z1 h2 => (zr (v4 + 1) ∧ (((0 : Int) ≤ (v4 + 1) ∧ (v4 + 1) < L) ∧ (mX8_removeHost (sc (v4 + 1)) h2 (fun z3 h4 => (mX8_thrown h4 (fun z5 => ((z5 = z1 → ((¬ z1 = 0 → (K v4 h4)) ∧ (z1 = 0 → (((0 : Int) ≤ 0 ∧ (0 : Int) < 1) ∧ (((zlcmp (rd h4 197 0) z3) = 0 → (K v4 h4)) ∧ (¬ (zlcmp (rd h4 197 0) z3) = 0 → (Q 0 h4))))))) ∧ (¬ z5 = z1 → (Q 0 h4)))))))))))))
set_option maxHeartbeats 4000000 in
set_option maxRecDepth 100000 in
theorem sW_22 {l0 : Launch} {a : ZC} {b : Nat} {L : Int} {sc : Int → Int} {Q : Int → Hp → Prop} {K : Int → Hp → Prop} {k n : Nat} {v4 : Int} {h : Hp} (O : zOk l0 a cL_law RL 9 (some .boolean) 198 []) (hS : zScr a b L sc) (hk : k ≤ 600000) (hn : n ≤ 7200000) (hK : ∀ (k2 n2 : Nat) (v4 : Int) (h : Hp), k2 ≤ k + 1 → n2 ≤ n + 6 → K v4 h → zV a (2048, 601024, 7293034, (qZ Q), xN) k2 n2 2046 [some (aA (b + 1)), some (aR 169), some (aR 185), some (aR 197), some (aI v4), none, none, none, none] [] h) (hM : mW_22 sc L Q K v4 h) : zV a (2048, 601024, 7293034, (qZ Q), xN) k n 1298 [some (aA (b + 1)), some (aR 169), some (aR 185), some (aR 197), some (aI v4), none, none, none, none] [] h := by
  unfold mW_22 at hM
  refine zV_aload_n O dL_law_1298 rfl rfl ?_
  refine zV_aload_n O dL_law_1299 rfl rfl ?_
  refine zV_iload O dL_law_1300 rfl ?_
  refine zV_iconst (z := 1) O ⟨by omega, by omega⟩ dL_law_1302 ?_
  obtain ⟨hc, hM⟩ := hM
  refine zV_iadd O dL_law_1303 hc ?_
  obtain ⟨hc, hM⟩ := hM
  refine zV_sld O hS hc dL_law_1304 ?_
  refine zV_aload_n O dL_law_1305 rfl rfl ?_
  refine zV_callSH (as := [aR 169, aI (sc (v4 + 1)), aR 197]) (st := []) O zch_L_removeHost.1 zch_L_removeHost.2.1 zch_L_removeHost.2.2.1 zch_L_removeHost.2.2.2 zl_RL_176 zi_1119 (by first | exact Nat.le_of_ble_eq_true rfl | (show _ ≤ 601024; omega) | (show _ ≤ 7293034; omega)) rfl rfl (by first | exact Nat.le_of_ble_eq_true rfl | (show _ ≤ 601024; omega) | (show _ ≤ 7293034; omega)) (by first | exact Nat.le_of_ble_eq_true rfl | (show _ ≤ 601024; omega) | (show _ ≤ 7293034; omega)) (by first | exact Nat.le_of_ble_eq_true rfl | (show _ ≤ 601024; omega) | (show _ ≤ 7293034; omega)) (by first | exact Nat.le_of_ble_eq_true rfl | (show _ ≤ 601024; omega) | (show _ ≤ 7293034; omega)) (by first | exact Nat.le_of_ble_eq_true rfl | (show _ ≤ 601024; omega) | (show _ ≤ 7293034; omega)) (by first | exact Nat.le_of_ble_eq_true rfl | (show _ ≤ 601024; omega) | (show _ ≤ 7293034; omega)) dL_law_1306 (sL_removeHost hM) (fun r h2 hq => ?_) (fun x h9 hq => hq.elim)
  obtain ⟨z1, rfl, hM⟩ := hq
  refine zV_istore O dL_law_1309 (by first | exact Nat.le_of_ble_eq_true rfl | (show _ ≤ 601024; omega) | (show _ ≤ 7293034; omega)) rfl ?_
  refine zV_aload_n O dL_law_1311 rfl rfl ?_
  refine zV_aload_n O dL_law_1312 rfl rfl ?_
  refine zV_iload O dL_law_1313 rfl ?_
  refine zV_iconst (z := 1) O ⟨by omega, by omega⟩ dL_law_1315 ?_
  obtain ⟨hc, hM⟩ := hM
  refine zV_iadd O dL_law_1316 hc ?_
  obtain ⟨hc, hM⟩ := hM
  refine zV_sld O hS hc dL_law_1317 ?_
  refine zV_callV (as := [aI (sc (v4 + 1))]) (st := []) O zc_X8_removeHost (Or.inl zl_RL_178) zi_1755 zi_1756 zt_185 rfl rfl (by decide) (by first | exact Nat.le_of_ble_eq_true rfl | (show _ ≤ 601024; omega) | (show _ ≤ 7293034; omega)) rfl rfl (by first | exact Nat.le_of_ble_eq_true rfl | (show _ ≤ 601024; omega) | (show _ ≤ 7293034; omega)) (by first | exact Nat.le_of_ble_eq_true rfl | (show _ ≤ 601024; omega) | (show _ ≤ 7293034; omega)) (by first | exact Nat.le_of_ble_eq_true rfl | (show _ ≤ 601024; omega) | (show _ ≤ 7293034; omega)) (by first | exact Nat.le_of_ble_eq_true rfl | (show _ ≤ 601024; omega) | (show _ ≤ 7293034; omega)) (by first | exact Nat.le_of_ble_eq_true rfl | (show _ ≤ 601024; omega) | (show _ ≤ 7293034; omega)) (by first | exact Nat.le_of_ble_eq_true rfl | (show _ ≤ 601024; omega) | (show _ ≤ 7293034; omega)) dL_law_1318 (sX8_removeHost hM) (fun r h4 hq => ?_) (fun x h9 hq => hq.elim)
  obtain ⟨z3, rfl, hM⟩ := hq
  refine zV_istore O dL_law_1321 (by first | exact Nat.le_of_ble_eq_true rfl | (show _ ≤ 601024; omega) | (show _ ≤ 7293034; omega)) rfl ?_
  refine zV_aload_n O dL_law_1323 rfl rfl ?_
  refine zV_callV (as := []) (st := []) O zc_X8_thrown (Or.inl zl_RL_100) zi_1295 zi_1296 zt_185 rfl rfl (by decide) (by first | exact Nat.le_of_ble_eq_true rfl | (show _ ≤ 601024; omega) | (show _ ≤ 7293034; omega)) rfl rfl (by first | exact Nat.le_of_ble_eq_true rfl | (show _ ≤ 601024; omega) | (show _ ≤ 7293034; omega)) (by first | exact Nat.le_of_ble_eq_true rfl | (show _ ≤ 601024; omega) | (show _ ≤ 7293034; omega)) (by first | exact Nat.le_of_ble_eq_true rfl | (show _ ≤ 601024; omega) | (show _ ≤ 7293034; omega)) (by first | exact Nat.le_of_ble_eq_true rfl | (show _ ≤ 601024; omega) | (show _ ≤ 7293034; omega)) (by first | exact Nat.le_of_ble_eq_true rfl | (show _ ≤ 601024; omega) | (show _ ≤ 7293034; omega)) (by first | exact Nat.le_of_ble_eq_true rfl | (show _ ≤ 601024; omega) | (show _ ≤ 7293034; omega)) dL_law_1324 (sX8_thrown hM) (fun r h9 hq => ?_) (fun x h9 hq => hq.elim)
  obtain ⟨rfl, z5, rfl, hM⟩ := hq
  refine zV_iload O dL_law_1327 rfl ?_
  refine zV_icmp_eq (tgt := 1334) O dL_law_1329 (by decide) (fun hc => ?_) (fun hc => ?_)
  · replace hM := hM.1 hc
    refine zV_iload O dL_law_1334 rfl ?_
    refine zV_if_ne (tgt := 1351) O dL_law_1336 (by decide) (fun hc => ?_) (fun hc => ?_)
    · replace hM := hM.1 hc
      refine zV_goto (tgt := 2046) O dL_law_1351 (by decide) ?_
      refine zV_sub (ls2 := [some (aA (b + 1)), some (aR 169), some (aR 185), some (aR 197), some (aI v4), none, none, none, none]) ⟨rfl, rfl, rfl, rfl, rfl, trivial⟩ ?_
      exact hK _ _ _ _ (by omega) (by omega) hM
    · replace hM := hM.2 hc
      refine zV_aload_n O dL_law_1339 rfl rfl ?_
      refine zV_iconst (z := 0) O ⟨by omega, by omega⟩ dL_law_1340 ?_
      obtain ⟨hc, hM⟩ := hM
      refine zV_lald O zt_197 (by decide) hc dL_law_1341 ?_
      refine zV_iload O dL_law_1342 rfl ?_
      refine zV_i2l O dL_law_1344 ?_
      refine zV_lcmp O dL_law_1345 ?_
      refine zV_if_eq (tgt := 1351) O dL_law_1346 (by decide) (fun hc => ?_) (fun hc => ?_)
      · replace hM := hM.1 hc
        refine zV_goto (tgt := 2046) O dL_law_1351 (by decide) ?_
        refine zV_sub (ls2 := [some (aA (b + 1)), some (aR 169), some (aR 185), some (aR 197), some (aI v4), none, none, none, none]) ⟨rfl, rfl, rfl, rfl, rfl, trivial⟩ ?_
        exact hK _ _ _ _ (by omega) (by omega) hM
      · replace hM := hM.2 hc
        refine zV_iconst (z := 0) O ⟨by omega, by omega⟩ dL_law_1349 ?_
        exact zV_zret O rfl (Or.inl rfl) ⟨_, rfl, (Or.inl rfl), hM⟩ (by first | exact Nat.le_of_ble_eq_true rfl | (show _ ≤ 601024; omega) | (show _ ≤ 7293034; omega)) (by first | exact Nat.le_of_ble_eq_true rfl | (show _ ≤ 601024; omega) | (show _ ≤ 7293034; omega)) dL_law_1350
  · replace hM := hM.2 hc
    refine zV_iconst (z := 0) O ⟨by omega, by omega⟩ dL_law_1332 ?_
    exact zV_zret O rfl (Or.inl rfl) ⟨_, rfl, (Or.inl rfl), hM⟩ (by first | exact Nat.le_of_ble_eq_true rfl | (show _ ≤ 601024; omega) | (show _ ≤ 7293034; omega)) (by first | exact Nat.le_of_ble_eq_true rfl | (show _ ≤ 601024; omega) | (show _ ≤ 7293034; omega)) dL_law_1333
def mW_23 (sc : Int → Int) (L : Int) (Q : Int → Hp → Prop) (K : Int → Hp → Prop) (v4 : Int) (h : Hp) : Prop := (zr (v4 + 1) ∧ (((0 : Int) ≤ (v4 + 1) ∧ (v4 + 1) < L) ∧ (zr (v4 + 2) ∧ (((0 : Int) ≤ (v4 + 2) ∧ (v4 + 2) < L) ∧ (zr (v4 + 3) ∧ (((0 : Int) ≤ (v4 + 3) ∧ (v4 + 3) < L) ∧ (mL_plan (sc (v4 + 1)) (sc (v4 + 2)) (sc (v4 + 3)) h (fun z1 h2 => (zr (v4 + 1) ∧ (((0 : Int) ≤ (v4 + 1) ∧ (v4 + 1) < L) ∧ (zr (v4 + 2) ∧ (((0 : Int) ≤ (v4 + 2) ∧ (v4 + 2) < L) ∧ (zr (v4 + 3) ∧ (((0 : Int) ≤ (v4 + 3) ∧ (v4 + 3) < L) ∧ (mX8_plan (sc (v4 + 1)) (sc (v4 + 2)) (sc (v4 + 3)) h2 (fun z3 h4 => (mX8_thrown h4 (fun z5 => ((z5 = z1 → ((¬ z1 = 0 → (K v4 h4)) ∧ (z1 = 0 → (((0 : Int) ≤ 0 ∧ (0 : Int) < 1) ∧ (((zlcmp (rd h4 197 0) z3) = 0 → (K v4 h4)) ∧ (¬ (zlcmp (rd h4 197 0) z3) = 0 → (Q 0 h4))))))) ∧ (¬ z5 = z1 → (Q 0 h4)))))))))))))))))))))
set_option maxHeartbeats 4000000 in
set_option maxRecDepth 100000 in
theorem sW_23 {l0 : Launch} {a : ZC} {b : Nat} {L : Int} {sc : Int → Int} {Q : Int → Hp → Prop} {K : Int → Hp → Prop} {k n : Nat} {v4 : Int} {h : Hp} (O : zOk l0 a cL_law RL 9 (some .boolean) 198 []) (hS : zScr a b L sc) (hk : k ≤ 600000) (hn : n ≤ 7200000) (hK : ∀ (k2 n2 : Nat) (v4 : Int) (h : Hp), k2 ≤ k + 1 → n2 ≤ n + 6 → K v4 h → zV a (2048, 601024, 7293034, (qZ Q), xN) k2 n2 2046 [some (aA (b + 1)), some (aR 169), some (aR 185), some (aR 197), some (aI v4), none, none, none, none] [] h) (hM : mW_23 sc L Q K v4 h) : zV a (2048, 601024, 7293034, (qZ Q), xN) k n 1354 [some (aA (b + 1)), some (aR 169), some (aR 185), some (aR 197), some (aI v4), none, none, none, none] [] h := by
  unfold mW_23 at hM
  refine zV_aload_n O dL_law_1354 rfl rfl ?_
  refine zV_aload_n O dL_law_1355 rfl rfl ?_
  refine zV_iload O dL_law_1356 rfl ?_
  refine zV_iconst (z := 1) O ⟨by omega, by omega⟩ dL_law_1358 ?_
  obtain ⟨hc, hM⟩ := hM
  refine zV_iadd O dL_law_1359 hc ?_
  obtain ⟨hc, hM⟩ := hM
  refine zV_sld O hS hc dL_law_1360 ?_
  refine zV_aload_n O dL_law_1361 rfl rfl ?_
  refine zV_iload O dL_law_1362 rfl ?_
  refine zV_iconst (z := 2) O ⟨by omega, by omega⟩ dL_law_1364 ?_
  obtain ⟨hc, hM⟩ := hM
  refine zV_iadd O dL_law_1365 hc ?_
  obtain ⟨hc, hM⟩ := hM
  refine zV_sld O hS hc dL_law_1366 ?_
  refine zV_aload_n O dL_law_1367 rfl rfl ?_
  refine zV_iload O dL_law_1368 rfl ?_
  refine zV_iconst (z := 3) O ⟨by omega, by omega⟩ dL_law_1370 ?_
  obtain ⟨hc, hM⟩ := hM
  refine zV_iadd O dL_law_1371 hc ?_
  obtain ⟨hc, hM⟩ := hM
  refine zV_sld O hS hc dL_law_1372 ?_
  refine zV_aload_n O dL_law_1373 rfl rfl ?_
  refine zV_callSH (as := [aR 169, aI (sc (v4 + 1)), aI (sc (v4 + 2)), aI (sc (v4 + 3)), aR 197]) (st := []) O zch_L_plan.1 zch_L_plan.2.1 zch_L_plan.2.2.1 zch_L_plan.2.2.2 zl_RL_179 zi_1130 (by first | exact Nat.le_of_ble_eq_true rfl | (show _ ≤ 601024; omega) | (show _ ≤ 7293034; omega)) rfl rfl (by first | exact Nat.le_of_ble_eq_true rfl | (show _ ≤ 601024; omega) | (show _ ≤ 7293034; omega)) (by first | exact Nat.le_of_ble_eq_true rfl | (show _ ≤ 601024; omega) | (show _ ≤ 7293034; omega)) (by first | exact Nat.le_of_ble_eq_true rfl | (show _ ≤ 601024; omega) | (show _ ≤ 7293034; omega)) (by first | exact Nat.le_of_ble_eq_true rfl | (show _ ≤ 601024; omega) | (show _ ≤ 7293034; omega)) (by first | exact Nat.le_of_ble_eq_true rfl | (show _ ≤ 601024; omega) | (show _ ≤ 7293034; omega)) (by first | exact Nat.le_of_ble_eq_true rfl | (show _ ≤ 601024; omega) | (show _ ≤ 7293034; omega)) dL_law_1374 (sL_plan hM) (fun r h2 hq => ?_) (fun x h9 hq => hq.elim)
  obtain ⟨z1, rfl, hM⟩ := hq
  refine zV_istore O dL_law_1377 (by first | exact Nat.le_of_ble_eq_true rfl | (show _ ≤ 601024; omega) | (show _ ≤ 7293034; omega)) rfl ?_
  refine zV_aload_n O dL_law_1379 rfl rfl ?_
  refine zV_aload_n O dL_law_1380 rfl rfl ?_
  refine zV_iload O dL_law_1381 rfl ?_
  refine zV_iconst (z := 1) O ⟨by omega, by omega⟩ dL_law_1383 ?_
  obtain ⟨hc, hM⟩ := hM
  refine zV_iadd O dL_law_1384 hc ?_
  obtain ⟨hc, hM⟩ := hM
  refine zV_sld O hS hc dL_law_1385 ?_
  refine zV_aload_n O dL_law_1386 rfl rfl ?_
  refine zV_iload O dL_law_1387 rfl ?_
  refine zV_iconst (z := 2) O ⟨by omega, by omega⟩ dL_law_1389 ?_
  obtain ⟨hc, hM⟩ := hM
  refine zV_iadd O dL_law_1390 hc ?_
  obtain ⟨hc, hM⟩ := hM
  refine zV_sld O hS hc dL_law_1391 ?_
  refine zV_aload_n O dL_law_1392 rfl rfl ?_
  refine zV_iload O dL_law_1393 rfl ?_
  refine zV_iconst (z := 3) O ⟨by omega, by omega⟩ dL_law_1395 ?_
  obtain ⟨hc, hM⟩ := hM
  refine zV_iadd O dL_law_1396 hc ?_
  obtain ⟨hc, hM⟩ := hM
  refine zV_sld O hS hc dL_law_1397 ?_
  refine zV_callV (as := [aI (sc (v4 + 1)), aI (sc (v4 + 2)), aI (sc (v4 + 3))]) (st := []) O zc_X8_plan (Or.inl zl_RL_181) zi_1759 zi_1760 zt_185 rfl rfl (by decide) (by first | exact Nat.le_of_ble_eq_true rfl | (show _ ≤ 601024; omega) | (show _ ≤ 7293034; omega)) rfl rfl (by first | exact Nat.le_of_ble_eq_true rfl | (show _ ≤ 601024; omega) | (show _ ≤ 7293034; omega)) (by first | exact Nat.le_of_ble_eq_true rfl | (show _ ≤ 601024; omega) | (show _ ≤ 7293034; omega)) (by first | exact Nat.le_of_ble_eq_true rfl | (show _ ≤ 601024; omega) | (show _ ≤ 7293034; omega)) (by first | exact Nat.le_of_ble_eq_true rfl | (show _ ≤ 601024; omega) | (show _ ≤ 7293034; omega)) (by first | exact Nat.le_of_ble_eq_true rfl | (show _ ≤ 601024; omega) | (show _ ≤ 7293034; omega)) (by first | exact Nat.le_of_ble_eq_true rfl | (show _ ≤ 601024; omega) | (show _ ≤ 7293034; omega)) dL_law_1398 (sX8_plan hM) (fun r h4 hq => ?_) (fun x h9 hq => hq.elim)
  obtain ⟨z3, rfl, hM⟩ := hq
  refine zV_istore O dL_law_1401 (by first | exact Nat.le_of_ble_eq_true rfl | (show _ ≤ 601024; omega) | (show _ ≤ 7293034; omega)) rfl ?_
  refine zV_aload_n O dL_law_1403 rfl rfl ?_
  refine zV_callV (as := []) (st := []) O zc_X8_thrown (Or.inl zl_RL_100) zi_1295 zi_1296 zt_185 rfl rfl (by decide) (by first | exact Nat.le_of_ble_eq_true rfl | (show _ ≤ 601024; omega) | (show _ ≤ 7293034; omega)) rfl rfl (by first | exact Nat.le_of_ble_eq_true rfl | (show _ ≤ 601024; omega) | (show _ ≤ 7293034; omega)) (by first | exact Nat.le_of_ble_eq_true rfl | (show _ ≤ 601024; omega) | (show _ ≤ 7293034; omega)) (by first | exact Nat.le_of_ble_eq_true rfl | (show _ ≤ 601024; omega) | (show _ ≤ 7293034; omega)) (by first | exact Nat.le_of_ble_eq_true rfl | (show _ ≤ 601024; omega) | (show _ ≤ 7293034; omega)) (by first | exact Nat.le_of_ble_eq_true rfl | (show _ ≤ 601024; omega) | (show _ ≤ 7293034; omega)) (by first | exact Nat.le_of_ble_eq_true rfl | (show _ ≤ 601024; omega) | (show _ ≤ 7293034; omega)) dL_law_1404 (sX8_thrown hM) (fun r h9 hq => ?_) (fun x h9 hq => hq.elim)
  obtain ⟨rfl, z5, rfl, hM⟩ := hq
  refine zV_iload O dL_law_1407 rfl ?_
  refine zV_icmp_eq (tgt := 1414) O dL_law_1409 (by decide) (fun hc => ?_) (fun hc => ?_)
  · replace hM := hM.1 hc
    refine zV_iload O dL_law_1414 rfl ?_
    refine zV_if_ne (tgt := 1431) O dL_law_1416 (by decide) (fun hc => ?_) (fun hc => ?_)
    · replace hM := hM.1 hc
      refine zV_goto (tgt := 2046) O dL_law_1431 (by decide) ?_
      refine zV_sub (ls2 := [some (aA (b + 1)), some (aR 169), some (aR 185), some (aR 197), some (aI v4), none, none, none, none]) ⟨rfl, rfl, rfl, rfl, rfl, trivial⟩ ?_
      exact hK _ _ _ _ (by omega) (by omega) hM
    · replace hM := hM.2 hc
      refine zV_aload_n O dL_law_1419 rfl rfl ?_
      refine zV_iconst (z := 0) O ⟨by omega, by omega⟩ dL_law_1420 ?_
      obtain ⟨hc, hM⟩ := hM
      refine zV_lald O zt_197 (by decide) hc dL_law_1421 ?_
      refine zV_iload O dL_law_1422 rfl ?_
      refine zV_i2l O dL_law_1424 ?_
      refine zV_lcmp O dL_law_1425 ?_
      refine zV_if_eq (tgt := 1431) O dL_law_1426 (by decide) (fun hc => ?_) (fun hc => ?_)
      · replace hM := hM.1 hc
        refine zV_goto (tgt := 2046) O dL_law_1431 (by decide) ?_
        refine zV_sub (ls2 := [some (aA (b + 1)), some (aR 169), some (aR 185), some (aR 197), some (aI v4), none, none, none, none]) ⟨rfl, rfl, rfl, rfl, rfl, trivial⟩ ?_
        exact hK _ _ _ _ (by omega) (by omega) hM
      · replace hM := hM.2 hc
        refine zV_iconst (z := 0) O ⟨by omega, by omega⟩ dL_law_1429 ?_
        exact zV_zret O rfl (Or.inl rfl) ⟨_, rfl, (Or.inl rfl), hM⟩ (by first | exact Nat.le_of_ble_eq_true rfl | (show _ ≤ 601024; omega) | (show _ ≤ 7293034; omega)) (by first | exact Nat.le_of_ble_eq_true rfl | (show _ ≤ 601024; omega) | (show _ ≤ 7293034; omega)) dL_law_1430
  · replace hM := hM.2 hc
    refine zV_iconst (z := 0) O ⟨by omega, by omega⟩ dL_law_1412 ?_
    exact zV_zret O rfl (Or.inl rfl) ⟨_, rfl, (Or.inl rfl), hM⟩ (by first | exact Nat.le_of_ble_eq_true rfl | (show _ ≤ 601024; omega) | (show _ ≤ 7293034; omega)) (by first | exact Nat.le_of_ble_eq_true rfl | (show _ ≤ 601024; omega) | (show _ ≤ 7293034; omega)) dL_law_1413
def mW_24 (sc : Int → Int) (L : Int) (Q : Int → Hp → Prop) (K : Int → Hp → Prop) (v4 : Int) (h : Hp) : Prop := (zr (v4 + 1) ∧ (((0 : Int) ≤ (v4 + 1) ∧ (v4 + 1) < L) ∧ (mL_unplan (sc (v4 + 1)) h (fun z1 h2 => (zr (v4 + 1) ∧ (((0 : Int) ≤ (v4 + 1) ∧ (v4 + 1) < L) ∧ (mX8_unplan (sc (v4 + 1)) h2 (fun z3 h4 => (mX8_thrown h4 (fun z5 => ((z5 = z1 → ((¬ z1 = 0 → (K v4 h4)) ∧ (z1 = 0 → (((0 : Int) ≤ 0 ∧ (0 : Int) < 1) ∧ (((zlcmp (rd h4 197 0) z3) = 0 → (K v4 h4)) ∧ (¬ (zlcmp (rd h4 197 0) z3) = 0 → (Q 0 h4))))))) ∧ (¬ z5 = z1 → (Q 0 h4)))))))))))))
set_option maxHeartbeats 4000000 in
set_option maxRecDepth 100000 in
theorem sW_24 {l0 : Launch} {a : ZC} {b : Nat} {L : Int} {sc : Int → Int} {Q : Int → Hp → Prop} {K : Int → Hp → Prop} {k n : Nat} {v4 : Int} {h : Hp} (O : zOk l0 a cL_law RL 9 (some .boolean) 198 []) (hS : zScr a b L sc) (hk : k ≤ 600000) (hn : n ≤ 7200000) (hK : ∀ (k2 n2 : Nat) (v4 : Int) (h : Hp), k2 ≤ k + 1 → n2 ≤ n + 6 → K v4 h → zV a (2048, 601024, 7293034, (qZ Q), xN) k2 n2 2046 [some (aA (b + 1)), some (aR 169), some (aR 185), some (aR 197), some (aI v4), none, none, none, none] [] h) (hM : mW_24 sc L Q K v4 h) : zV a (2048, 601024, 7293034, (qZ Q), xN) k n 1434 [some (aA (b + 1)), some (aR 169), some (aR 185), some (aR 197), some (aI v4), none, none, none, none] [] h := by
  unfold mW_24 at hM
  refine zV_aload_n O dL_law_1434 rfl rfl ?_
  refine zV_aload_n O dL_law_1435 rfl rfl ?_
  refine zV_iload O dL_law_1436 rfl ?_
  refine zV_iconst (z := 1) O ⟨by omega, by omega⟩ dL_law_1438 ?_
  obtain ⟨hc, hM⟩ := hM
  refine zV_iadd O dL_law_1439 hc ?_
  obtain ⟨hc, hM⟩ := hM
  refine zV_sld O hS hc dL_law_1440 ?_
  refine zV_aload_n O dL_law_1441 rfl rfl ?_
  refine zV_callSH (as := [aR 169, aI (sc (v4 + 1)), aR 197]) (st := []) O zch_L_unplan.1 zch_L_unplan.2.1 zch_L_unplan.2.2.1 zch_L_unplan.2.2.2 zl_RL_182 zi_1137 (by first | exact Nat.le_of_ble_eq_true rfl | (show _ ≤ 601024; omega) | (show _ ≤ 7293034; omega)) rfl rfl (by first | exact Nat.le_of_ble_eq_true rfl | (show _ ≤ 601024; omega) | (show _ ≤ 7293034; omega)) (by first | exact Nat.le_of_ble_eq_true rfl | (show _ ≤ 601024; omega) | (show _ ≤ 7293034; omega)) (by first | exact Nat.le_of_ble_eq_true rfl | (show _ ≤ 601024; omega) | (show _ ≤ 7293034; omega)) (by first | exact Nat.le_of_ble_eq_true rfl | (show _ ≤ 601024; omega) | (show _ ≤ 7293034; omega)) (by first | exact Nat.le_of_ble_eq_true rfl | (show _ ≤ 601024; omega) | (show _ ≤ 7293034; omega)) (by first | exact Nat.le_of_ble_eq_true rfl | (show _ ≤ 601024; omega) | (show _ ≤ 7293034; omega)) dL_law_1442 (sL_unplan hM) (fun r h2 hq => ?_) (fun x h9 hq => hq.elim)
  obtain ⟨z1, rfl, hM⟩ := hq
  refine zV_istore O dL_law_1445 (by first | exact Nat.le_of_ble_eq_true rfl | (show _ ≤ 601024; omega) | (show _ ≤ 7293034; omega)) rfl ?_
  refine zV_aload_n O dL_law_1447 rfl rfl ?_
  refine zV_aload_n O dL_law_1448 rfl rfl ?_
  refine zV_iload O dL_law_1449 rfl ?_
  refine zV_iconst (z := 1) O ⟨by omega, by omega⟩ dL_law_1451 ?_
  obtain ⟨hc, hM⟩ := hM
  refine zV_iadd O dL_law_1452 hc ?_
  obtain ⟨hc, hM⟩ := hM
  refine zV_sld O hS hc dL_law_1453 ?_
  refine zV_callV (as := [aI (sc (v4 + 1))]) (st := []) O zc_X8_unplan (Or.inl zl_RL_184) zi_1763 zi_1764 zt_185 rfl rfl (by decide) (by first | exact Nat.le_of_ble_eq_true rfl | (show _ ≤ 601024; omega) | (show _ ≤ 7293034; omega)) rfl rfl (by first | exact Nat.le_of_ble_eq_true rfl | (show _ ≤ 601024; omega) | (show _ ≤ 7293034; omega)) (by first | exact Nat.le_of_ble_eq_true rfl | (show _ ≤ 601024; omega) | (show _ ≤ 7293034; omega)) (by first | exact Nat.le_of_ble_eq_true rfl | (show _ ≤ 601024; omega) | (show _ ≤ 7293034; omega)) (by first | exact Nat.le_of_ble_eq_true rfl | (show _ ≤ 601024; omega) | (show _ ≤ 7293034; omega)) (by first | exact Nat.le_of_ble_eq_true rfl | (show _ ≤ 601024; omega) | (show _ ≤ 7293034; omega)) (by first | exact Nat.le_of_ble_eq_true rfl | (show _ ≤ 601024; omega) | (show _ ≤ 7293034; omega)) dL_law_1454 (sX8_unplan hM) (fun r h4 hq => ?_) (fun x h9 hq => hq.elim)
  obtain ⟨z3, rfl, hM⟩ := hq
  refine zV_istore O dL_law_1457 (by first | exact Nat.le_of_ble_eq_true rfl | (show _ ≤ 601024; omega) | (show _ ≤ 7293034; omega)) rfl ?_
  refine zV_aload_n O dL_law_1459 rfl rfl ?_
  refine zV_callV (as := []) (st := []) O zc_X8_thrown (Or.inl zl_RL_100) zi_1295 zi_1296 zt_185 rfl rfl (by decide) (by first | exact Nat.le_of_ble_eq_true rfl | (show _ ≤ 601024; omega) | (show _ ≤ 7293034; omega)) rfl rfl (by first | exact Nat.le_of_ble_eq_true rfl | (show _ ≤ 601024; omega) | (show _ ≤ 7293034; omega)) (by first | exact Nat.le_of_ble_eq_true rfl | (show _ ≤ 601024; omega) | (show _ ≤ 7293034; omega)) (by first | exact Nat.le_of_ble_eq_true rfl | (show _ ≤ 601024; omega) | (show _ ≤ 7293034; omega)) (by first | exact Nat.le_of_ble_eq_true rfl | (show _ ≤ 601024; omega) | (show _ ≤ 7293034; omega)) (by first | exact Nat.le_of_ble_eq_true rfl | (show _ ≤ 601024; omega) | (show _ ≤ 7293034; omega)) (by first | exact Nat.le_of_ble_eq_true rfl | (show _ ≤ 601024; omega) | (show _ ≤ 7293034; omega)) dL_law_1460 (sX8_thrown hM) (fun r h9 hq => ?_) (fun x h9 hq => hq.elim)
  obtain ⟨rfl, z5, rfl, hM⟩ := hq
  refine zV_iload O dL_law_1463 rfl ?_
  refine zV_icmp_eq (tgt := 1470) O dL_law_1465 (by decide) (fun hc => ?_) (fun hc => ?_)
  · replace hM := hM.1 hc
    refine zV_iload O dL_law_1470 rfl ?_
    refine zV_if_ne (tgt := 1487) O dL_law_1472 (by decide) (fun hc => ?_) (fun hc => ?_)
    · replace hM := hM.1 hc
      refine zV_goto (tgt := 2046) O dL_law_1487 (by decide) ?_
      refine zV_sub (ls2 := [some (aA (b + 1)), some (aR 169), some (aR 185), some (aR 197), some (aI v4), none, none, none, none]) ⟨rfl, rfl, rfl, rfl, rfl, trivial⟩ ?_
      exact hK _ _ _ _ (by omega) (by omega) hM
    · replace hM := hM.2 hc
      refine zV_aload_n O dL_law_1475 rfl rfl ?_
      refine zV_iconst (z := 0) O ⟨by omega, by omega⟩ dL_law_1476 ?_
      obtain ⟨hc, hM⟩ := hM
      refine zV_lald O zt_197 (by decide) hc dL_law_1477 ?_
      refine zV_iload O dL_law_1478 rfl ?_
      refine zV_i2l O dL_law_1480 ?_
      refine zV_lcmp O dL_law_1481 ?_
      refine zV_if_eq (tgt := 1487) O dL_law_1482 (by decide) (fun hc => ?_) (fun hc => ?_)
      · replace hM := hM.1 hc
        refine zV_goto (tgt := 2046) O dL_law_1487 (by decide) ?_
        refine zV_sub (ls2 := [some (aA (b + 1)), some (aR 169), some (aR 185), some (aR 197), some (aI v4), none, none, none, none]) ⟨rfl, rfl, rfl, rfl, rfl, trivial⟩ ?_
        exact hK _ _ _ _ (by omega) (by omega) hM
      · replace hM := hM.2 hc
        refine zV_iconst (z := 0) O ⟨by omega, by omega⟩ dL_law_1485 ?_
        exact zV_zret O rfl (Or.inl rfl) ⟨_, rfl, (Or.inl rfl), hM⟩ (by first | exact Nat.le_of_ble_eq_true rfl | (show _ ≤ 601024; omega) | (show _ ≤ 7293034; omega)) (by first | exact Nat.le_of_ble_eq_true rfl | (show _ ≤ 601024; omega) | (show _ ≤ 7293034; omega)) dL_law_1486
  · replace hM := hM.2 hc
    refine zV_iconst (z := 0) O ⟨by omega, by omega⟩ dL_law_1468 ?_
    exact zV_zret O rfl (Or.inl rfl) ⟨_, rfl, (Or.inl rfl), hM⟩ (by first | exact Nat.le_of_ble_eq_true rfl | (show _ ≤ 601024; omega) | (show _ ≤ 7293034; omega)) (by first | exact Nat.le_of_ble_eq_true rfl | (show _ ≤ 601024; omega) | (show _ ≤ 7293034; omega)) dL_law_1469
def mW_25 (sc : Int → Int) (L : Int) (Q : Int → Hp → Prop) (K : Int → Hp → Prop) (v4 : Int) (h : Hp) : Prop := (mX7_settle h (fun z1 h2 => (mX8_settle h2 (fun z3 h4 => ((z1 = z3 → (K v4 h4)) ∧ (¬ z1 = z3 → (Q 0 h4)))))))
set_option maxHeartbeats 4000000 in
set_option maxRecDepth 100000 in
theorem sW_25 {l0 : Launch} {a : ZC} {b : Nat} {L : Int} {sc : Int → Int} {Q : Int → Hp → Prop} {K : Int → Hp → Prop} {k n : Nat} {v4 : Int} {h : Hp} (O : zOk l0 a cL_law RL 9 (some .boolean) 198 []) (hS : zScr a b L sc) (hk : k ≤ 600000) (hn : n ≤ 7200000) (hK : ∀ (k2 n2 : Nat) (v4 : Int) (h : Hp), k2 ≤ k + 1 → n2 ≤ n + 6 → K v4 h → zV a (2048, 601024, 7293034, (qZ Q), xN) k2 n2 2046 [some (aA (b + 1)), some (aR 169), some (aR 185), some (aR 197), some (aI v4), none, none, none, none] [] h) (hM : mW_25 sc L Q K v4 h) : zV a (2048, 601024, 7293034, (qZ Q), xN) k n 1490 [some (aA (b + 1)), some (aR 169), some (aR 185), some (aR 197), some (aI v4), none, none, none, none] [] h := by
  unfold mW_25 at hM
  refine zV_aload_n O dL_law_1490 rfl rfl ?_
  refine zV_callV (as := []) (st := []) O zc_X7_settle (Or.inl zl_RL_185) zi_632 zi_633 zt_169 rfl rfl (by decide) (by first | exact Nat.le_of_ble_eq_true rfl | (show _ ≤ 601024; omega) | (show _ ≤ 7293034; omega)) rfl rfl (by first | exact Nat.le_of_ble_eq_true rfl | (show _ ≤ 601024; omega) | (show _ ≤ 7293034; omega)) (by first | exact Nat.le_of_ble_eq_true rfl | (show _ ≤ 601024; omega) | (show _ ≤ 7293034; omega)) (by first | exact Nat.le_of_ble_eq_true rfl | (show _ ≤ 601024; omega) | (show _ ≤ 7293034; omega)) (by first | exact Nat.le_of_ble_eq_true rfl | (show _ ≤ 601024; omega) | (show _ ≤ 7293034; omega)) (by first | exact Nat.le_of_ble_eq_true rfl | (show _ ≤ 601024; omega) | (show _ ≤ 7293034; omega)) (by first | exact Nat.le_of_ble_eq_true rfl | (show _ ≤ 601024; omega) | (show _ ≤ 7293034; omega)) dL_law_1491 (sX7_settle hM) (fun r h2 hq => ?_) (fun x h9 hq => hq.elim)
  obtain ⟨z1, rfl, hM⟩ := hq
  refine zV_aload_n O dL_law_1494 rfl rfl ?_
  refine zV_callV (as := []) (st := [aI z1]) O zc_X8_settle (Or.inl zl_RL_188) zi_1771 zi_1772 zt_185 rfl rfl (by decide) (by first | exact Nat.le_of_ble_eq_true rfl | (show _ ≤ 601024; omega) | (show _ ≤ 7293034; omega)) rfl rfl (by first | exact Nat.le_of_ble_eq_true rfl | (show _ ≤ 601024; omega) | (show _ ≤ 7293034; omega)) (by first | exact Nat.le_of_ble_eq_true rfl | (show _ ≤ 601024; omega) | (show _ ≤ 7293034; omega)) (by first | exact Nat.le_of_ble_eq_true rfl | (show _ ≤ 601024; omega) | (show _ ≤ 7293034; omega)) (by first | exact Nat.le_of_ble_eq_true rfl | (show _ ≤ 601024; omega) | (show _ ≤ 7293034; omega)) (by first | exact Nat.le_of_ble_eq_true rfl | (show _ ≤ 601024; omega) | (show _ ≤ 7293034; omega)) (by first | exact Nat.le_of_ble_eq_true rfl | (show _ ≤ 601024; omega) | (show _ ≤ 7293034; omega)) dL_law_1495 (sX8_settle hM) (fun r h4 hq => ?_) (fun x h9 hq => hq.elim)
  obtain ⟨z3, rfl, hM⟩ := hq
  refine zV_icmp_eq (tgt := 2046) O dL_law_1498 (by decide) (fun hc => ?_) (fun hc => ?_)
  · replace hM := hM.1 hc
    refine zV_sub (ls2 := [some (aA (b + 1)), some (aR 169), some (aR 185), some (aR 197), some (aI v4), none, none, none, none]) ⟨rfl, rfl, rfl, rfl, rfl, trivial⟩ ?_
    exact hK _ _ _ _ (by omega) (by omega) hM
  · replace hM := hM.2 hc
    refine zV_iconst (z := 0) O ⟨by omega, by omega⟩ dL_law_1501 ?_
    exact zV_zret O rfl (Or.inl rfl) ⟨_, rfl, (Or.inl rfl), hM⟩ (by first | exact Nat.le_of_ble_eq_true rfl | (show _ ≤ 601024; omega) | (show _ ≤ 7293034; omega)) (by first | exact Nat.le_of_ble_eq_true rfl | (show _ ≤ 601024; omega) | (show _ ≤ 7293034; omega)) dL_law_1502
def mW_26 (sc : Int → Int) (L : Int) (Q : Int → Hp → Prop) (K : Int → Hp → Prop) (v4 : Int) (h : Hp) : Prop := (mX7_wave h (fun z1 h2 => (mX8_wave h2 (fun z3 h4 => ((z1 = z3 → (K v4 h4)) ∧ (¬ z1 = z3 → (Q 0 h4)))))))
set_option maxHeartbeats 4000000 in
set_option maxRecDepth 100000 in
theorem sW_26 {l0 : Launch} {a : ZC} {b : Nat} {L : Int} {sc : Int → Int} {Q : Int → Hp → Prop} {K : Int → Hp → Prop} {k n : Nat} {v4 : Int} {h : Hp} (O : zOk l0 a cL_law RL 9 (some .boolean) 198 []) (hS : zScr a b L sc) (hk : k ≤ 600000) (hn : n ≤ 7200000) (hK : ∀ (k2 n2 : Nat) (v4 : Int) (h : Hp), k2 ≤ k + 1 → n2 ≤ n + 6 → K v4 h → zV a (2048, 601024, 7293034, (qZ Q), xN) k2 n2 2046 [some (aA (b + 1)), some (aR 169), some (aR 185), some (aR 197), some (aI v4), none, none, none, none] [] h) (hM : mW_26 sc L Q K v4 h) : zV a (2048, 601024, 7293034, (qZ Q), xN) k n 1503 [some (aA (b + 1)), some (aR 169), some (aR 185), some (aR 197), some (aI v4), none, none, none, none] [] h := by
  unfold mW_26 at hM
  refine zV_aload_n O dL_law_1503 rfl rfl ?_
  refine zV_callV (as := []) (st := []) O zc_X7_wave (Or.inl zl_RL_189) zi_664 zi_665 zt_169 rfl rfl (by decide) (by first | exact Nat.le_of_ble_eq_true rfl | (show _ ≤ 601024; omega) | (show _ ≤ 7293034; omega)) rfl rfl (by first | exact Nat.le_of_ble_eq_true rfl | (show _ ≤ 601024; omega) | (show _ ≤ 7293034; omega)) (by first | exact Nat.le_of_ble_eq_true rfl | (show _ ≤ 601024; omega) | (show _ ≤ 7293034; omega)) (by first | exact Nat.le_of_ble_eq_true rfl | (show _ ≤ 601024; omega) | (show _ ≤ 7293034; omega)) (by first | exact Nat.le_of_ble_eq_true rfl | (show _ ≤ 601024; omega) | (show _ ≤ 7293034; omega)) (by first | exact Nat.le_of_ble_eq_true rfl | (show _ ≤ 601024; omega) | (show _ ≤ 7293034; omega)) (by first | exact Nat.le_of_ble_eq_true rfl | (show _ ≤ 601024; omega) | (show _ ≤ 7293034; omega)) dL_law_1504 (sX7_wave hM) (fun r h2 hq => ?_) (fun x h9 hq => hq.elim)
  obtain ⟨z1, rfl, hM⟩ := hq
  refine zV_aload_n O dL_law_1507 rfl rfl ?_
  refine zV_callV (as := []) (st := [aI z1]) O zc_X8_wave (Or.inl zl_RL_192) zi_1783 zi_1784 zt_185 rfl rfl (by decide) (by first | exact Nat.le_of_ble_eq_true rfl | (show _ ≤ 601024; omega) | (show _ ≤ 7293034; omega)) rfl rfl (by first | exact Nat.le_of_ble_eq_true rfl | (show _ ≤ 601024; omega) | (show _ ≤ 7293034; omega)) (by first | exact Nat.le_of_ble_eq_true rfl | (show _ ≤ 601024; omega) | (show _ ≤ 7293034; omega)) (by first | exact Nat.le_of_ble_eq_true rfl | (show _ ≤ 601024; omega) | (show _ ≤ 7293034; omega)) (by first | exact Nat.le_of_ble_eq_true rfl | (show _ ≤ 601024; omega) | (show _ ≤ 7293034; omega)) (by first | exact Nat.le_of_ble_eq_true rfl | (show _ ≤ 601024; omega) | (show _ ≤ 7293034; omega)) (by first | exact Nat.le_of_ble_eq_true rfl | (show _ ≤ 601024; omega) | (show _ ≤ 7293034; omega)) dL_law_1508 (sX8_wave hM) (fun r h4 hq => ?_) (fun x h9 hq => hq.elim)
  obtain ⟨z3, rfl, hM⟩ := hq
  refine zV_icmp_eq (tgt := 2046) O dL_law_1511 (by decide) (fun hc => ?_) (fun hc => ?_)
  · replace hM := hM.1 hc
    refine zV_sub (ls2 := [some (aA (b + 1)), some (aR 169), some (aR 185), some (aR 197), some (aI v4), none, none, none, none]) ⟨rfl, rfl, rfl, rfl, rfl, trivial⟩ ?_
    exact hK _ _ _ _ (by omega) (by omega) hM
  · replace hM := hM.2 hc
    refine zV_iconst (z := 0) O ⟨by omega, by omega⟩ dL_law_1514 ?_
    exact zV_zret O rfl (Or.inl rfl) ⟨_, rfl, (Or.inl rfl), hM⟩ (by first | exact Nat.le_of_ble_eq_true rfl | (show _ ≤ 601024; omega) | (show _ ≤ 7293034; omega)) (by first | exact Nat.le_of_ble_eq_true rfl | (show _ ≤ 601024; omega) | (show _ ≤ 7293034; omega)) dL_law_1515
def mW_27 (sc : Int → Int) (L : Int) (Q : Int → Hp → Prop) (K : Int → Hp → Prop) (v4 : Int) (h : Hp) : Prop := (mX7_back h (fun z1 h2 => (mX8_back h2 (fun z3 h4 => ((z1 = z3 → (K v4 h4)) ∧ (¬ z1 = z3 → (Q 0 h4)))))))
set_option maxHeartbeats 4000000 in
set_option maxRecDepth 100000 in
theorem sW_27 {l0 : Launch} {a : ZC} {b : Nat} {L : Int} {sc : Int → Int} {Q : Int → Hp → Prop} {K : Int → Hp → Prop} {k n : Nat} {v4 : Int} {h : Hp} (O : zOk l0 a cL_law RL 9 (some .boolean) 198 []) (hS : zScr a b L sc) (hk : k ≤ 600000) (hn : n ≤ 7200000) (hK : ∀ (k2 n2 : Nat) (v4 : Int) (h : Hp), k2 ≤ k + 1 → n2 ≤ n + 6 → K v4 h → zV a (2048, 601024, 7293034, (qZ Q), xN) k2 n2 2046 [some (aA (b + 1)), some (aR 169), some (aR 185), some (aR 197), some (aI v4), none, none, none, none] [] h) (hM : mW_27 sc L Q K v4 h) : zV a (2048, 601024, 7293034, (qZ Q), xN) k n 1516 [some (aA (b + 1)), some (aR 169), some (aR 185), some (aR 197), some (aI v4), none, none, none, none] [] h := by
  unfold mW_27 at hM
  refine zV_aload_n O dL_law_1516 rfl rfl ?_
  refine zV_callV (as := []) (st := []) O zc_X7_back (Or.inl zl_RL_193) zi_672 zi_673 zt_169 rfl rfl (by decide) (by first | exact Nat.le_of_ble_eq_true rfl | (show _ ≤ 601024; omega) | (show _ ≤ 7293034; omega)) rfl rfl (by first | exact Nat.le_of_ble_eq_true rfl | (show _ ≤ 601024; omega) | (show _ ≤ 7293034; omega)) (by first | exact Nat.le_of_ble_eq_true rfl | (show _ ≤ 601024; omega) | (show _ ≤ 7293034; omega)) (by first | exact Nat.le_of_ble_eq_true rfl | (show _ ≤ 601024; omega) | (show _ ≤ 7293034; omega)) (by first | exact Nat.le_of_ble_eq_true rfl | (show _ ≤ 601024; omega) | (show _ ≤ 7293034; omega)) (by first | exact Nat.le_of_ble_eq_true rfl | (show _ ≤ 601024; omega) | (show _ ≤ 7293034; omega)) (by first | exact Nat.le_of_ble_eq_true rfl | (show _ ≤ 601024; omega) | (show _ ≤ 7293034; omega)) dL_law_1517 (sX7_back hM) (fun r h2 hq => ?_) (fun x h9 hq => hq.elim)
  obtain ⟨z1, rfl, hM⟩ := hq
  refine zV_aload_n O dL_law_1520 rfl rfl ?_
  refine zV_callV (as := []) (st := [aI z1]) O zc_X8_back (Or.inl zl_RL_196) zi_1787 zi_1788 zt_185 rfl rfl (by decide) (by first | exact Nat.le_of_ble_eq_true rfl | (show _ ≤ 601024; omega) | (show _ ≤ 7293034; omega)) rfl rfl (by first | exact Nat.le_of_ble_eq_true rfl | (show _ ≤ 601024; omega) | (show _ ≤ 7293034; omega)) (by first | exact Nat.le_of_ble_eq_true rfl | (show _ ≤ 601024; omega) | (show _ ≤ 7293034; omega)) (by first | exact Nat.le_of_ble_eq_true rfl | (show _ ≤ 601024; omega) | (show _ ≤ 7293034; omega)) (by first | exact Nat.le_of_ble_eq_true rfl | (show _ ≤ 601024; omega) | (show _ ≤ 7293034; omega)) (by first | exact Nat.le_of_ble_eq_true rfl | (show _ ≤ 601024; omega) | (show _ ≤ 7293034; omega)) (by first | exact Nat.le_of_ble_eq_true rfl | (show _ ≤ 601024; omega) | (show _ ≤ 7293034; omega)) dL_law_1521 (sX8_back hM) (fun r h4 hq => ?_) (fun x h9 hq => hq.elim)
  obtain ⟨z3, rfl, hM⟩ := hq
  refine zV_icmp_eq (tgt := 2046) O dL_law_1524 (by decide) (fun hc => ?_) (fun hc => ?_)
  · replace hM := hM.1 hc
    refine zV_sub (ls2 := [some (aA (b + 1)), some (aR 169), some (aR 185), some (aR 197), some (aI v4), none, none, none, none]) ⟨rfl, rfl, rfl, rfl, rfl, trivial⟩ ?_
    exact hK _ _ _ _ (by omega) (by omega) hM
  · replace hM := hM.2 hc
    refine zV_iconst (z := 0) O ⟨by omega, by omega⟩ dL_law_1527 ?_
    exact zV_zret O rfl (Or.inl rfl) ⟨_, rfl, (Or.inl rfl), hM⟩ (by first | exact Nat.le_of_ble_eq_true rfl | (show _ ≤ 601024; omega) | (show _ ≤ 7293034; omega)) (by first | exact Nat.le_of_ble_eq_true rfl | (show _ ≤ 601024; omega) | (show _ ≤ 7293034; omega)) dL_law_1528
def mW_28 (sc : Int → Int) (L : Int) (Q : Int → Hp → Prop) (K : Int → Hp → Prop) (v4 : Int) (h : Hp) : Prop := (mX7_open h (fun z1 h2 => (mX8_open h2 (fun z3 h4 => ((z1 = z3 → (K v4 h4)) ∧ (¬ z1 = z3 → (Q 0 h4)))))))
set_option maxHeartbeats 4000000 in
set_option maxRecDepth 100000 in
theorem sW_28 {l0 : Launch} {a : ZC} {b : Nat} {L : Int} {sc : Int → Int} {Q : Int → Hp → Prop} {K : Int → Hp → Prop} {k n : Nat} {v4 : Int} {h : Hp} (O : zOk l0 a cL_law RL 9 (some .boolean) 198 []) (hS : zScr a b L sc) (hk : k ≤ 600000) (hn : n ≤ 7200000) (hK : ∀ (k2 n2 : Nat) (v4 : Int) (h : Hp), k2 ≤ k + 1 → n2 ≤ n + 6 → K v4 h → zV a (2048, 601024, 7293034, (qZ Q), xN) k2 n2 2046 [some (aA (b + 1)), some (aR 169), some (aR 185), some (aR 197), some (aI v4), none, none, none, none] [] h) (hM : mW_28 sc L Q K v4 h) : zV a (2048, 601024, 7293034, (qZ Q), xN) k n 1529 [some (aA (b + 1)), some (aR 169), some (aR 185), some (aR 197), some (aI v4), none, none, none, none] [] h := by
  unfold mW_28 at hM
  refine zV_aload_n O dL_law_1529 rfl rfl ?_
  refine zV_callV (as := []) (st := []) O zc_X7_open (Or.inl zl_RL_197) zi_688 zi_689 zt_169 rfl rfl (by decide) (by first | exact Nat.le_of_ble_eq_true rfl | (show _ ≤ 601024; omega) | (show _ ≤ 7293034; omega)) rfl rfl (by first | exact Nat.le_of_ble_eq_true rfl | (show _ ≤ 601024; omega) | (show _ ≤ 7293034; omega)) (by first | exact Nat.le_of_ble_eq_true rfl | (show _ ≤ 601024; omega) | (show _ ≤ 7293034; omega)) (by first | exact Nat.le_of_ble_eq_true rfl | (show _ ≤ 601024; omega) | (show _ ≤ 7293034; omega)) (by first | exact Nat.le_of_ble_eq_true rfl | (show _ ≤ 601024; omega) | (show _ ≤ 7293034; omega)) (by first | exact Nat.le_of_ble_eq_true rfl | (show _ ≤ 601024; omega) | (show _ ≤ 7293034; omega)) (by first | exact Nat.le_of_ble_eq_true rfl | (show _ ≤ 601024; omega) | (show _ ≤ 7293034; omega)) dL_law_1530 (sX7_open hM) (fun r h2 hq => ?_) (fun x h9 hq => hq.elim)
  obtain ⟨z1, rfl, hM⟩ := hq
  refine zV_aload_n O dL_law_1533 rfl rfl ?_
  refine zV_callV (as := []) (st := [aI z1]) O zc_X8_open (Or.inl zl_RL_200) zi_1795 zi_1796 zt_185 rfl rfl (by decide) (by first | exact Nat.le_of_ble_eq_true rfl | (show _ ≤ 601024; omega) | (show _ ≤ 7293034; omega)) rfl rfl (by first | exact Nat.le_of_ble_eq_true rfl | (show _ ≤ 601024; omega) | (show _ ≤ 7293034; omega)) (by first | exact Nat.le_of_ble_eq_true rfl | (show _ ≤ 601024; omega) | (show _ ≤ 7293034; omega)) (by first | exact Nat.le_of_ble_eq_true rfl | (show _ ≤ 601024; omega) | (show _ ≤ 7293034; omega)) (by first | exact Nat.le_of_ble_eq_true rfl | (show _ ≤ 601024; omega) | (show _ ≤ 7293034; omega)) (by first | exact Nat.le_of_ble_eq_true rfl | (show _ ≤ 601024; omega) | (show _ ≤ 7293034; omega)) (by first | exact Nat.le_of_ble_eq_true rfl | (show _ ≤ 601024; omega) | (show _ ≤ 7293034; omega)) dL_law_1534 (sX8_open hM) (fun r h4 hq => ?_) (fun x h9 hq => hq.elim)
  obtain ⟨z3, rfl, hM⟩ := hq
  refine zV_icmp_eq (tgt := 2046) O dL_law_1537 (by decide) (fun hc => ?_) (fun hc => ?_)
  · replace hM := hM.1 hc
    refine zV_sub (ls2 := [some (aA (b + 1)), some (aR 169), some (aR 185), some (aR 197), some (aI v4), none, none, none, none]) ⟨rfl, rfl, rfl, rfl, rfl, trivial⟩ ?_
    exact hK _ _ _ _ (by omega) (by omega) hM
  · replace hM := hM.2 hc
    refine zV_iconst (z := 0) O ⟨by omega, by omega⟩ dL_law_1540 ?_
    exact zV_zret O rfl (Or.inl rfl) ⟨_, rfl, (Or.inl rfl), hM⟩ (by first | exact Nat.le_of_ble_eq_true rfl | (show _ ≤ 601024; omega) | (show _ ≤ 7293034; omega)) (by first | exact Nat.le_of_ble_eq_true rfl | (show _ ≤ 601024; omega) | (show _ ≤ 7293034; omega)) dL_law_1541
def mW_29 (sc : Int → Int) (L : Int) (Q : Int → Hp → Prop) (K : Int → Hp → Prop) (v4 : Int) (h : Hp) : Prop := (mX7_close h (fun z1 h2 => (mX8_close h2 (fun z3 h4 => ((z1 = z3 → (K v4 h4)) ∧ (¬ z1 = z3 → (Q 0 h4)))))))
set_option maxHeartbeats 4000000 in
set_option maxRecDepth 100000 in
theorem sW_29 {l0 : Launch} {a : ZC} {b : Nat} {L : Int} {sc : Int → Int} {Q : Int → Hp → Prop} {K : Int → Hp → Prop} {k n : Nat} {v4 : Int} {h : Hp} (O : zOk l0 a cL_law RL 9 (some .boolean) 198 []) (hS : zScr a b L sc) (hk : k ≤ 600000) (hn : n ≤ 7200000) (hK : ∀ (k2 n2 : Nat) (v4 : Int) (h : Hp), k2 ≤ k + 1 → n2 ≤ n + 6 → K v4 h → zV a (2048, 601024, 7293034, (qZ Q), xN) k2 n2 2046 [some (aA (b + 1)), some (aR 169), some (aR 185), some (aR 197), some (aI v4), none, none, none, none] [] h) (hM : mW_29 sc L Q K v4 h) : zV a (2048, 601024, 7293034, (qZ Q), xN) k n 1542 [some (aA (b + 1)), some (aR 169), some (aR 185), some (aR 197), some (aI v4), none, none, none, none] [] h := by
  unfold mW_29 at hM
  refine zV_aload_n O dL_law_1542 rfl rfl ?_
  refine zV_callV (as := []) (st := []) O zc_X7_close (Or.inl zl_RL_201) zi_692 zi_693 zt_169 rfl rfl (by decide) (by first | exact Nat.le_of_ble_eq_true rfl | (show _ ≤ 601024; omega) | (show _ ≤ 7293034; omega)) rfl rfl (by first | exact Nat.le_of_ble_eq_true rfl | (show _ ≤ 601024; omega) | (show _ ≤ 7293034; omega)) (by first | exact Nat.le_of_ble_eq_true rfl | (show _ ≤ 601024; omega) | (show _ ≤ 7293034; omega)) (by first | exact Nat.le_of_ble_eq_true rfl | (show _ ≤ 601024; omega) | (show _ ≤ 7293034; omega)) (by first | exact Nat.le_of_ble_eq_true rfl | (show _ ≤ 601024; omega) | (show _ ≤ 7293034; omega)) (by first | exact Nat.le_of_ble_eq_true rfl | (show _ ≤ 601024; omega) | (show _ ≤ 7293034; omega)) (by first | exact Nat.le_of_ble_eq_true rfl | (show _ ≤ 601024; omega) | (show _ ≤ 7293034; omega)) dL_law_1543 (sX7_close hM) (fun r h2 hq => ?_) (fun x h9 hq => hq.elim)
  obtain ⟨z1, rfl, hM⟩ := hq
  refine zV_aload_n O dL_law_1546 rfl rfl ?_
  refine zV_callV (as := []) (st := [aI z1]) O zc_X8_close (Or.inl zl_RL_204) zi_1799 zi_1800 zt_185 rfl rfl (by decide) (by first | exact Nat.le_of_ble_eq_true rfl | (show _ ≤ 601024; omega) | (show _ ≤ 7293034; omega)) rfl rfl (by first | exact Nat.le_of_ble_eq_true rfl | (show _ ≤ 601024; omega) | (show _ ≤ 7293034; omega)) (by first | exact Nat.le_of_ble_eq_true rfl | (show _ ≤ 601024; omega) | (show _ ≤ 7293034; omega)) (by first | exact Nat.le_of_ble_eq_true rfl | (show _ ≤ 601024; omega) | (show _ ≤ 7293034; omega)) (by first | exact Nat.le_of_ble_eq_true rfl | (show _ ≤ 601024; omega) | (show _ ≤ 7293034; omega)) (by first | exact Nat.le_of_ble_eq_true rfl | (show _ ≤ 601024; omega) | (show _ ≤ 7293034; omega)) (by first | exact Nat.le_of_ble_eq_true rfl | (show _ ≤ 601024; omega) | (show _ ≤ 7293034; omega)) dL_law_1547 (sX8_close hM) (fun r h4 hq => ?_) (fun x h9 hq => hq.elim)
  obtain ⟨z3, rfl, hM⟩ := hq
  refine zV_icmp_eq (tgt := 2046) O dL_law_1550 (by decide) (fun hc => ?_) (fun hc => ?_)
  · replace hM := hM.1 hc
    refine zV_sub (ls2 := [some (aA (b + 1)), some (aR 169), some (aR 185), some (aR 197), some (aI v4), none, none, none, none]) ⟨rfl, rfl, rfl, rfl, rfl, trivial⟩ ?_
    exact hK _ _ _ _ (by omega) (by omega) hM
  · replace hM := hM.2 hc
    refine zV_iconst (z := 0) O ⟨by omega, by omega⟩ dL_law_1553 ?_
    exact zV_zret O rfl (Or.inl rfl) ⟨_, rfl, (Or.inl rfl), hM⟩ (by first | exact Nat.le_of_ble_eq_true rfl | (show _ ≤ 601024; omega) | (show _ ≤ 7293034; omega)) (by first | exact Nat.le_of_ble_eq_true rfl | (show _ ≤ 601024; omega) | (show _ ≤ 7293034; omega)) dL_law_1554
def mW_30 (sc : Int → Int) (L : Int) (Q : Int → Hp → Prop) (K : Int → Hp → Prop) (v4 : Int) (h : Hp) : Prop := (zr (v4 + 1) ∧ (((0 : Int) ≤ (v4 + 1) ∧ (v4 + 1) < L) ∧ (zr (v4 + 2) ∧ (((0 : Int) ≤ (v4 + 2) ∧ (v4 + 2) < L) ∧ (((sc (v4 + 2)) = 0 → (zr (v4 + 3) ∧ (((0 : Int) ≤ (v4 + 3) ∧ (v4 + 3) < L) ∧ (zr (v4 + 4) ∧ (((0 : Int) ≤ (v4 + 4) ∧ (v4 + 4) < L) ∧ (mL_addRule (sc (v4 + 1)) 0 (sc (v4 + 3)) (sc (v4 + 4)) h (fun z1 h2 => (zr (v4 + 1) ∧ (((0 : Int) ≤ (v4 + 1) ∧ (v4 + 1) < L) ∧ (zr (v4 + 2) ∧ (((0 : Int) ≤ (v4 + 2) ∧ (v4 + 2) < L) ∧ (((sc (v4 + 2)) = 0 → (zr (v4 + 3) ∧ (((0 : Int) ≤ (v4 + 3) ∧ (v4 + 3) < L) ∧ (zr (v4 + 4) ∧ (((0 : Int) ≤ (v4 + 4) ∧ (v4 + 4) < L) ∧ (mX8_addRule (sc (v4 + 1)) 0 (sc (v4 + 3)) (sc (v4 + 4)) h2 (fun z3 h4 => (mX8_thrown h4 (fun z5 => ((z5 = z1 → ((¬ z1 = 0 → (K v4 h4)) ∧ (z1 = 0 → (((0 : Int) ≤ 0 ∧ (0 : Int) < 1) ∧ (((zlcmp (rd h4 197 0) z3) = 0 → (K v4 h4)) ∧ (¬ (zlcmp (rd h4 197 0) z3) = 0 → (Q 0 h4))))))) ∧ (¬ z5 = z1 → (Q 0 h4)))))))))))) ∧ (¬ (sc (v4 + 2)) = 0 → (zr (v4 + 3) ∧ (((0 : Int) ≤ (v4 + 3) ∧ (v4 + 3) < L) ∧ (zr (v4 + 4) ∧ (((0 : Int) ≤ (v4 + 4) ∧ (v4 + 4) < L) ∧ (mX8_addRule (sc (v4 + 1)) 1 (sc (v4 + 3)) (sc (v4 + 4)) h2 (fun z6 h7 => (mX8_thrown h7 (fun z8 => ((z8 = z1 → ((¬ z1 = 0 → (K v4 h7)) ∧ (z1 = 0 → (((0 : Int) ≤ 0 ∧ (0 : Int) < 1) ∧ (((zlcmp (rd h7 197 0) z6) = 0 → (K v4 h7)) ∧ (¬ (zlcmp (rd h7 197 0) z6) = 0 → (Q 0 h7))))))) ∧ (¬ z8 = z1 → (Q 0 h7)))))))))))))))))))))))) ∧ (¬ (sc (v4 + 2)) = 0 → (zr (v4 + 3) ∧ (((0 : Int) ≤ (v4 + 3) ∧ (v4 + 3) < L) ∧ (zr (v4 + 4) ∧ (((0 : Int) ≤ (v4 + 4) ∧ (v4 + 4) < L) ∧ (mL_addRule (sc (v4 + 1)) 1 (sc (v4 + 3)) (sc (v4 + 4)) h (fun z9 h10 => (zr (v4 + 1) ∧ (((0 : Int) ≤ (v4 + 1) ∧ (v4 + 1) < L) ∧ (zr (v4 + 2) ∧ (((0 : Int) ≤ (v4 + 2) ∧ (v4 + 2) < L) ∧ (((sc (v4 + 2)) = 0 → (zr (v4 + 3) ∧ (((0 : Int) ≤ (v4 + 3) ∧ (v4 + 3) < L) ∧ (zr (v4 + 4) ∧ (((0 : Int) ≤ (v4 + 4) ∧ (v4 + 4) < L) ∧ (mX8_addRule (sc (v4 + 1)) 0 (sc (v4 + 3)) (sc (v4 + 4)) h10 (fun z11 h12 => (mX8_thrown h12 (fun z13 => ((z13 = z9 → ((¬ z9 = 0 → (K v4 h12)) ∧ (z9 = 0 → (((0 : Int) ≤ 0 ∧ (0 : Int) < 1) ∧ (((zlcmp (rd h12 197 0) z11) = 0 → (K v4 h12)) ∧ (¬ (zlcmp (rd h12 197 0) z11) = 0 → (Q 0 h12))))))) ∧ (¬ z13 = z9 → (Q 0 h12)))))))))))) ∧ (¬ (sc (v4 + 2)) = 0 → (zr (v4 + 3) ∧ (((0 : Int) ≤ (v4 + 3) ∧ (v4 + 3) < L) ∧ (zr (v4 + 4) ∧ (((0 : Int) ≤ (v4 + 4) ∧ (v4 + 4) < L) ∧ (mX8_addRule (sc (v4 + 1)) 1 (sc (v4 + 3)) (sc (v4 + 4)) h10 (fun z14 h15 => (mX8_thrown h15 (fun z16 => ((z16 = z9 → ((¬ z9 = 0 → (K v4 h15)) ∧ (z9 = 0 → (((0 : Int) ≤ 0 ∧ (0 : Int) < 1) ∧ (((zlcmp (rd h15 197 0) z14) = 0 → (K v4 h15)) ∧ (¬ (zlcmp (rd h15 197 0) z14) = 0 → (Q 0 h15))))))) ∧ (¬ z16 = z9 → (Q 0 h15)))))))))))))))))))))))))))))
set_option maxHeartbeats 4000000 in
set_option maxRecDepth 100000 in
theorem sW_30 {l0 : Launch} {a : ZC} {b : Nat} {L : Int} {sc : Int → Int} {Q : Int → Hp → Prop} {K : Int → Hp → Prop} {k n : Nat} {v4 : Int} {h : Hp} (O : zOk l0 a cL_law RL 9 (some .boolean) 198 []) (hS : zScr a b L sc) (hk : k ≤ 600000) (hn : n ≤ 7200000) (hK : ∀ (k2 n2 : Nat) (v4 : Int) (h : Hp), k2 ≤ k + 1 → n2 ≤ n + 6 → K v4 h → zV a (2048, 601024, 7293034, (qZ Q), xN) k2 n2 2046 [some (aA (b + 1)), some (aR 169), some (aR 185), some (aR 197), some (aI v4), none, none, none, none] [] h) (hM : mW_30 sc L Q K v4 h) : zV a (2048, 601024, 7293034, (qZ Q), xN) k n 1555 [some (aA (b + 1)), some (aR 169), some (aR 185), some (aR 197), some (aI v4), none, none, none, none] [] h := by
  unfold mW_30 at hM
  refine zV_aload_n O dL_law_1555 rfl rfl ?_
  refine zV_aload_n O dL_law_1556 rfl rfl ?_
  refine zV_iload O dL_law_1557 rfl ?_
  refine zV_iconst (z := 1) O ⟨by omega, by omega⟩ dL_law_1559 ?_
  obtain ⟨hc, hM⟩ := hM
  refine zV_iadd O dL_law_1560 hc ?_
  obtain ⟨hc, hM⟩ := hM
  refine zV_sld O hS hc dL_law_1561 ?_
  refine zV_aload_n O dL_law_1562 rfl rfl ?_
  refine zV_iload O dL_law_1563 rfl ?_
  refine zV_iconst (z := 2) O ⟨by omega, by omega⟩ dL_law_1565 ?_
  obtain ⟨hc, hM⟩ := hM
  refine zV_iadd O dL_law_1566 hc ?_
  obtain ⟨hc, hM⟩ := hM
  refine zV_sld O hS hc dL_law_1567 ?_
  refine zV_if_eq (tgt := 1575) O dL_law_1568 (by decide) (fun hc => ?_) (fun hc => ?_)
  · replace hM := hM.1 hc
    refine zV_iconst (z := 0) O ⟨by omega, by omega⟩ dL_law_1575 ?_
    refine zV_aload_n O dL_law_1576 rfl rfl ?_
    refine zV_iload O dL_law_1577 rfl ?_
    refine zV_iconst (z := 3) O ⟨by omega, by omega⟩ dL_law_1579 ?_
    obtain ⟨hc, hM⟩ := hM
    refine zV_iadd O dL_law_1580 hc ?_
    obtain ⟨hc, hM⟩ := hM
    refine zV_sld O hS hc dL_law_1581 ?_
    refine zV_aload_n O dL_law_1582 rfl rfl ?_
    refine zV_iload O dL_law_1583 rfl ?_
    refine zV_iconst (z := 4) O ⟨by omega, by omega⟩ dL_law_1585 ?_
    obtain ⟨hc, hM⟩ := hM
    refine zV_iadd O dL_law_1586 hc ?_
    obtain ⟨hc, hM⟩ := hM
    refine zV_sld O hS hc dL_law_1587 ?_
    refine zV_aload_n O dL_law_1588 rfl rfl ?_
    refine zV_callSH (as := [aR 169, aI (sc (v4 + 1)), aI 0, aI (sc (v4 + 3)), aI (sc (v4 + 4)), aR 197]) (st := []) O zch_L_addRule.1 zch_L_addRule.2.1 zch_L_addRule.2.2.1 zch_L_addRule.2.2.2 zl_RL_205 zi_1144 (by first | exact Nat.le_of_ble_eq_true rfl | (show _ ≤ 601024; omega) | (show _ ≤ 7293034; omega)) rfl rfl (by first | exact Nat.le_of_ble_eq_true rfl | (show _ ≤ 601024; omega) | (show _ ≤ 7293034; omega)) (by first | exact Nat.le_of_ble_eq_true rfl | (show _ ≤ 601024; omega) | (show _ ≤ 7293034; omega)) (by first | exact Nat.le_of_ble_eq_true rfl | (show _ ≤ 601024; omega) | (show _ ≤ 7293034; omega)) (by first | exact Nat.le_of_ble_eq_true rfl | (show _ ≤ 601024; omega) | (show _ ≤ 7293034; omega)) (by first | exact Nat.le_of_ble_eq_true rfl | (show _ ≤ 601024; omega) | (show _ ≤ 7293034; omega)) (by first | exact Nat.le_of_ble_eq_true rfl | (show _ ≤ 601024; omega) | (show _ ≤ 7293034; omega)) dL_law_1589 (sL_addRule hM) (fun r h2 hq => ?_) (fun x h9 hq => hq.elim)
    obtain ⟨z1, rfl, hM⟩ := hq
    refine zV_istore O dL_law_1592 (by first | exact Nat.le_of_ble_eq_true rfl | (show _ ≤ 601024; omega) | (show _ ≤ 7293034; omega)) rfl ?_
    refine zV_aload_n O dL_law_1594 rfl rfl ?_
    refine zV_aload_n O dL_law_1595 rfl rfl ?_
    refine zV_iload O dL_law_1596 rfl ?_
    refine zV_iconst (z := 1) O ⟨by omega, by omega⟩ dL_law_1598 ?_
    obtain ⟨hc, hM⟩ := hM
    refine zV_iadd O dL_law_1599 hc ?_
    obtain ⟨hc, hM⟩ := hM
    refine zV_sld O hS hc dL_law_1600 ?_
    refine zV_aload_n O dL_law_1601 rfl rfl ?_
    refine zV_iload O dL_law_1602 rfl ?_
    refine zV_iconst (z := 2) O ⟨by omega, by omega⟩ dL_law_1604 ?_
    obtain ⟨hc, hM⟩ := hM
    refine zV_iadd O dL_law_1605 hc ?_
    obtain ⟨hc, hM⟩ := hM
    refine zV_sld O hS hc dL_law_1606 ?_
    refine zV_if_eq (tgt := 1614) O dL_law_1607 (by decide) (fun hc => ?_) (fun hc => ?_)
    · replace hM := hM.1 hc
      refine zV_iconst (z := 0) O ⟨by omega, by omega⟩ dL_law_1614 ?_
      refine zV_aload_n O dL_law_1615 rfl rfl ?_
      refine zV_iload O dL_law_1616 rfl ?_
      refine zV_iconst (z := 3) O ⟨by omega, by omega⟩ dL_law_1618 ?_
      obtain ⟨hc, hM⟩ := hM
      refine zV_iadd O dL_law_1619 hc ?_
      obtain ⟨hc, hM⟩ := hM
      refine zV_sld O hS hc dL_law_1620 ?_
      refine zV_aload_n O dL_law_1621 rfl rfl ?_
      refine zV_iload O dL_law_1622 rfl ?_
      refine zV_iconst (z := 4) O ⟨by omega, by omega⟩ dL_law_1624 ?_
      obtain ⟨hc, hM⟩ := hM
      refine zV_iadd O dL_law_1625 hc ?_
      obtain ⟨hc, hM⟩ := hM
      refine zV_sld O hS hc dL_law_1626 ?_
      refine zV_callV (as := [aI (sc (v4 + 1)), aI 0, aI (sc (v4 + 3)), aI (sc (v4 + 4))]) (st := []) O zc_X8_addRule (Or.inl zl_RL_208) zi_1803 zi_1804 zt_185 rfl rfl (by decide) (by first | exact Nat.le_of_ble_eq_true rfl | (show _ ≤ 601024; omega) | (show _ ≤ 7293034; omega)) rfl rfl (by first | exact Nat.le_of_ble_eq_true rfl | (show _ ≤ 601024; omega) | (show _ ≤ 7293034; omega)) (by first | exact Nat.le_of_ble_eq_true rfl | (show _ ≤ 601024; omega) | (show _ ≤ 7293034; omega)) (by first | exact Nat.le_of_ble_eq_true rfl | (show _ ≤ 601024; omega) | (show _ ≤ 7293034; omega)) (by first | exact Nat.le_of_ble_eq_true rfl | (show _ ≤ 601024; omega) | (show _ ≤ 7293034; omega)) (by first | exact Nat.le_of_ble_eq_true rfl | (show _ ≤ 601024; omega) | (show _ ≤ 7293034; omega)) (by first | exact Nat.le_of_ble_eq_true rfl | (show _ ≤ 601024; omega) | (show _ ≤ 7293034; omega)) dL_law_1627 (sX8_addRule hM) (fun r h4 hq => ?_) (fun x h9 hq => hq.elim)
      obtain ⟨z3, rfl, hM⟩ := hq
      refine zV_istore O dL_law_1630 (by first | exact Nat.le_of_ble_eq_true rfl | (show _ ≤ 601024; omega) | (show _ ≤ 7293034; omega)) rfl ?_
      refine zV_aload_n O dL_law_1632 rfl rfl ?_
      refine zV_callV (as := []) (st := []) O zc_X8_thrown (Or.inl zl_RL_100) zi_1295 zi_1296 zt_185 rfl rfl (by decide) (by first | exact Nat.le_of_ble_eq_true rfl | (show _ ≤ 601024; omega) | (show _ ≤ 7293034; omega)) rfl rfl (by first | exact Nat.le_of_ble_eq_true rfl | (show _ ≤ 601024; omega) | (show _ ≤ 7293034; omega)) (by first | exact Nat.le_of_ble_eq_true rfl | (show _ ≤ 601024; omega) | (show _ ≤ 7293034; omega)) (by first | exact Nat.le_of_ble_eq_true rfl | (show _ ≤ 601024; omega) | (show _ ≤ 7293034; omega)) (by first | exact Nat.le_of_ble_eq_true rfl | (show _ ≤ 601024; omega) | (show _ ≤ 7293034; omega)) (by first | exact Nat.le_of_ble_eq_true rfl | (show _ ≤ 601024; omega) | (show _ ≤ 7293034; omega)) (by first | exact Nat.le_of_ble_eq_true rfl | (show _ ≤ 601024; omega) | (show _ ≤ 7293034; omega)) dL_law_1633 (sX8_thrown hM) (fun r h9 hq => ?_) (fun x h9 hq => hq.elim)
      obtain ⟨rfl, z5, rfl, hM⟩ := hq
      refine zV_iload O dL_law_1636 rfl ?_
      refine zV_icmp_eq (tgt := 1643) O dL_law_1638 (by decide) (fun hc => ?_) (fun hc => ?_)
      · replace hM := hM.1 hc
        refine zV_iload O dL_law_1643 rfl ?_
        refine zV_if_ne (tgt := 1660) O dL_law_1645 (by decide) (fun hc => ?_) (fun hc => ?_)
        · replace hM := hM.1 hc
          refine zV_goto (tgt := 2046) O dL_law_1660 (by decide) ?_
          refine zV_sub (ls2 := [some (aA (b + 1)), some (aR 169), some (aR 185), some (aR 197), some (aI v4), none, none, none, none]) ⟨rfl, rfl, rfl, rfl, rfl, trivial⟩ ?_
          exact hK _ _ _ _ (by omega) (by omega) hM
        · replace hM := hM.2 hc
          refine zV_aload_n O dL_law_1648 rfl rfl ?_
          refine zV_iconst (z := 0) O ⟨by omega, by omega⟩ dL_law_1649 ?_
          obtain ⟨hc, hM⟩ := hM
          refine zV_lald O zt_197 (by decide) hc dL_law_1650 ?_
          refine zV_iload O dL_law_1651 rfl ?_
          refine zV_i2l O dL_law_1653 ?_
          refine zV_lcmp O dL_law_1654 ?_
          refine zV_if_eq (tgt := 1660) O dL_law_1655 (by decide) (fun hc => ?_) (fun hc => ?_)
          · replace hM := hM.1 hc
            refine zV_goto (tgt := 2046) O dL_law_1660 (by decide) ?_
            refine zV_sub (ls2 := [some (aA (b + 1)), some (aR 169), some (aR 185), some (aR 197), some (aI v4), none, none, none, none]) ⟨rfl, rfl, rfl, rfl, rfl, trivial⟩ ?_
            exact hK _ _ _ _ (by omega) (by omega) hM
          · replace hM := hM.2 hc
            refine zV_iconst (z := 0) O ⟨by omega, by omega⟩ dL_law_1658 ?_
            exact zV_zret O rfl (Or.inl rfl) ⟨_, rfl, (Or.inl rfl), hM⟩ (by first | exact Nat.le_of_ble_eq_true rfl | (show _ ≤ 601024; omega) | (show _ ≤ 7293034; omega)) (by first | exact Nat.le_of_ble_eq_true rfl | (show _ ≤ 601024; omega) | (show _ ≤ 7293034; omega)) dL_law_1659
      · replace hM := hM.2 hc
        refine zV_iconst (z := 0) O ⟨by omega, by omega⟩ dL_law_1641 ?_
        exact zV_zret O rfl (Or.inl rfl) ⟨_, rfl, (Or.inl rfl), hM⟩ (by first | exact Nat.le_of_ble_eq_true rfl | (show _ ≤ 601024; omega) | (show _ ≤ 7293034; omega)) (by first | exact Nat.le_of_ble_eq_true rfl | (show _ ≤ 601024; omega) | (show _ ≤ 7293034; omega)) dL_law_1642
    · replace hM := hM.2 hc
      refine zV_iconst (z := 1) O ⟨by omega, by omega⟩ dL_law_1610 ?_
      refine zV_goto (tgt := 1615) O dL_law_1611 (by decide) ?_
      refine zV_aload_n O dL_law_1615 rfl rfl ?_
      refine zV_iload O dL_law_1616 rfl ?_
      refine zV_iconst (z := 3) O ⟨by omega, by omega⟩ dL_law_1618 ?_
      obtain ⟨hc, hM⟩ := hM
      refine zV_iadd O dL_law_1619 hc ?_
      obtain ⟨hc, hM⟩ := hM
      refine zV_sld O hS hc dL_law_1620 ?_
      refine zV_aload_n O dL_law_1621 rfl rfl ?_
      refine zV_iload O dL_law_1622 rfl ?_
      refine zV_iconst (z := 4) O ⟨by omega, by omega⟩ dL_law_1624 ?_
      obtain ⟨hc, hM⟩ := hM
      refine zV_iadd O dL_law_1625 hc ?_
      obtain ⟨hc, hM⟩ := hM
      refine zV_sld O hS hc dL_law_1626 ?_
      refine zV_callV (as := [aI (sc (v4 + 1)), aI 1, aI (sc (v4 + 3)), aI (sc (v4 + 4))]) (st := []) O zc_X8_addRule (Or.inl zl_RL_208) zi_1803 zi_1804 zt_185 rfl rfl (by decide) (by first | exact Nat.le_of_ble_eq_true rfl | (show _ ≤ 601024; omega) | (show _ ≤ 7293034; omega)) rfl rfl (by first | exact Nat.le_of_ble_eq_true rfl | (show _ ≤ 601024; omega) | (show _ ≤ 7293034; omega)) (by first | exact Nat.le_of_ble_eq_true rfl | (show _ ≤ 601024; omega) | (show _ ≤ 7293034; omega)) (by first | exact Nat.le_of_ble_eq_true rfl | (show _ ≤ 601024; omega) | (show _ ≤ 7293034; omega)) (by first | exact Nat.le_of_ble_eq_true rfl | (show _ ≤ 601024; omega) | (show _ ≤ 7293034; omega)) (by first | exact Nat.le_of_ble_eq_true rfl | (show _ ≤ 601024; omega) | (show _ ≤ 7293034; omega)) (by first | exact Nat.le_of_ble_eq_true rfl | (show _ ≤ 601024; omega) | (show _ ≤ 7293034; omega)) dL_law_1627 (sX8_addRule hM) (fun r h7 hq => ?_) (fun x h9 hq => hq.elim)
      obtain ⟨z6, rfl, hM⟩ := hq
      refine zV_istore O dL_law_1630 (by first | exact Nat.le_of_ble_eq_true rfl | (show _ ≤ 601024; omega) | (show _ ≤ 7293034; omega)) rfl ?_
      refine zV_aload_n O dL_law_1632 rfl rfl ?_
      refine zV_callV (as := []) (st := []) O zc_X8_thrown (Or.inl zl_RL_100) zi_1295 zi_1296 zt_185 rfl rfl (by decide) (by first | exact Nat.le_of_ble_eq_true rfl | (show _ ≤ 601024; omega) | (show _ ≤ 7293034; omega)) rfl rfl (by first | exact Nat.le_of_ble_eq_true rfl | (show _ ≤ 601024; omega) | (show _ ≤ 7293034; omega)) (by first | exact Nat.le_of_ble_eq_true rfl | (show _ ≤ 601024; omega) | (show _ ≤ 7293034; omega)) (by first | exact Nat.le_of_ble_eq_true rfl | (show _ ≤ 601024; omega) | (show _ ≤ 7293034; omega)) (by first | exact Nat.le_of_ble_eq_true rfl | (show _ ≤ 601024; omega) | (show _ ≤ 7293034; omega)) (by first | exact Nat.le_of_ble_eq_true rfl | (show _ ≤ 601024; omega) | (show _ ≤ 7293034; omega)) (by first | exact Nat.le_of_ble_eq_true rfl | (show _ ≤ 601024; omega) | (show _ ≤ 7293034; omega)) dL_law_1633 (sX8_thrown hM) (fun r h9 hq => ?_) (fun x h9 hq => hq.elim)
      obtain ⟨rfl, z8, rfl, hM⟩ := hq
      refine zV_iload O dL_law_1636 rfl ?_
      refine zV_icmp_eq (tgt := 1643) O dL_law_1638 (by decide) (fun hc => ?_) (fun hc => ?_)
      · replace hM := hM.1 hc
        refine zV_iload O dL_law_1643 rfl ?_
        refine zV_if_ne (tgt := 1660) O dL_law_1645 (by decide) (fun hc => ?_) (fun hc => ?_)
        · replace hM := hM.1 hc
          refine zV_goto (tgt := 2046) O dL_law_1660 (by decide) ?_
          refine zV_sub (ls2 := [some (aA (b + 1)), some (aR 169), some (aR 185), some (aR 197), some (aI v4), none, none, none, none]) ⟨rfl, rfl, rfl, rfl, rfl, trivial⟩ ?_
          exact hK _ _ _ _ (by omega) (by omega) hM
        · replace hM := hM.2 hc
          refine zV_aload_n O dL_law_1648 rfl rfl ?_
          refine zV_iconst (z := 0) O ⟨by omega, by omega⟩ dL_law_1649 ?_
          obtain ⟨hc, hM⟩ := hM
          refine zV_lald O zt_197 (by decide) hc dL_law_1650 ?_
          refine zV_iload O dL_law_1651 rfl ?_
          refine zV_i2l O dL_law_1653 ?_
          refine zV_lcmp O dL_law_1654 ?_
          refine zV_if_eq (tgt := 1660) O dL_law_1655 (by decide) (fun hc => ?_) (fun hc => ?_)
          · replace hM := hM.1 hc
            refine zV_goto (tgt := 2046) O dL_law_1660 (by decide) ?_
            refine zV_sub (ls2 := [some (aA (b + 1)), some (aR 169), some (aR 185), some (aR 197), some (aI v4), none, none, none, none]) ⟨rfl, rfl, rfl, rfl, rfl, trivial⟩ ?_
            exact hK _ _ _ _ (by omega) (by omega) hM
          · replace hM := hM.2 hc
            refine zV_iconst (z := 0) O ⟨by omega, by omega⟩ dL_law_1658 ?_
            exact zV_zret O rfl (Or.inl rfl) ⟨_, rfl, (Or.inl rfl), hM⟩ (by first | exact Nat.le_of_ble_eq_true rfl | (show _ ≤ 601024; omega) | (show _ ≤ 7293034; omega)) (by first | exact Nat.le_of_ble_eq_true rfl | (show _ ≤ 601024; omega) | (show _ ≤ 7293034; omega)) dL_law_1659
      · replace hM := hM.2 hc
        refine zV_iconst (z := 0) O ⟨by omega, by omega⟩ dL_law_1641 ?_
        exact zV_zret O rfl (Or.inl rfl) ⟨_, rfl, (Or.inl rfl), hM⟩ (by first | exact Nat.le_of_ble_eq_true rfl | (show _ ≤ 601024; omega) | (show _ ≤ 7293034; omega)) (by first | exact Nat.le_of_ble_eq_true rfl | (show _ ≤ 601024; omega) | (show _ ≤ 7293034; omega)) dL_law_1642
  · replace hM := hM.2 hc
    refine zV_iconst (z := 1) O ⟨by omega, by omega⟩ dL_law_1571 ?_
    refine zV_goto (tgt := 1576) O dL_law_1572 (by decide) ?_
    refine zV_aload_n O dL_law_1576 rfl rfl ?_
    refine zV_iload O dL_law_1577 rfl ?_
    refine zV_iconst (z := 3) O ⟨by omega, by omega⟩ dL_law_1579 ?_
    obtain ⟨hc, hM⟩ := hM
    refine zV_iadd O dL_law_1580 hc ?_
    obtain ⟨hc, hM⟩ := hM
    refine zV_sld O hS hc dL_law_1581 ?_
    refine zV_aload_n O dL_law_1582 rfl rfl ?_
    refine zV_iload O dL_law_1583 rfl ?_
    refine zV_iconst (z := 4) O ⟨by omega, by omega⟩ dL_law_1585 ?_
    obtain ⟨hc, hM⟩ := hM
    refine zV_iadd O dL_law_1586 hc ?_
    obtain ⟨hc, hM⟩ := hM
    refine zV_sld O hS hc dL_law_1587 ?_
    refine zV_aload_n O dL_law_1588 rfl rfl ?_
    refine zV_callSH (as := [aR 169, aI (sc (v4 + 1)), aI 1, aI (sc (v4 + 3)), aI (sc (v4 + 4)), aR 197]) (st := []) O zch_L_addRule.1 zch_L_addRule.2.1 zch_L_addRule.2.2.1 zch_L_addRule.2.2.2 zl_RL_205 zi_1144 (by first | exact Nat.le_of_ble_eq_true rfl | (show _ ≤ 601024; omega) | (show _ ≤ 7293034; omega)) rfl rfl (by first | exact Nat.le_of_ble_eq_true rfl | (show _ ≤ 601024; omega) | (show _ ≤ 7293034; omega)) (by first | exact Nat.le_of_ble_eq_true rfl | (show _ ≤ 601024; omega) | (show _ ≤ 7293034; omega)) (by first | exact Nat.le_of_ble_eq_true rfl | (show _ ≤ 601024; omega) | (show _ ≤ 7293034; omega)) (by first | exact Nat.le_of_ble_eq_true rfl | (show _ ≤ 601024; omega) | (show _ ≤ 7293034; omega)) (by first | exact Nat.le_of_ble_eq_true rfl | (show _ ≤ 601024; omega) | (show _ ≤ 7293034; omega)) (by first | exact Nat.le_of_ble_eq_true rfl | (show _ ≤ 601024; omega) | (show _ ≤ 7293034; omega)) dL_law_1589 (sL_addRule hM) (fun r h10 hq => ?_) (fun x h9 hq => hq.elim)
    obtain ⟨z9, rfl, hM⟩ := hq
    refine zV_istore O dL_law_1592 (by first | exact Nat.le_of_ble_eq_true rfl | (show _ ≤ 601024; omega) | (show _ ≤ 7293034; omega)) rfl ?_
    refine zV_aload_n O dL_law_1594 rfl rfl ?_
    refine zV_aload_n O dL_law_1595 rfl rfl ?_
    refine zV_iload O dL_law_1596 rfl ?_
    refine zV_iconst (z := 1) O ⟨by omega, by omega⟩ dL_law_1598 ?_
    obtain ⟨hc, hM⟩ := hM
    refine zV_iadd O dL_law_1599 hc ?_
    obtain ⟨hc, hM⟩ := hM
    refine zV_sld O hS hc dL_law_1600 ?_
    refine zV_aload_n O dL_law_1601 rfl rfl ?_
    refine zV_iload O dL_law_1602 rfl ?_
    refine zV_iconst (z := 2) O ⟨by omega, by omega⟩ dL_law_1604 ?_
    obtain ⟨hc, hM⟩ := hM
    refine zV_iadd O dL_law_1605 hc ?_
    obtain ⟨hc, hM⟩ := hM
    refine zV_sld O hS hc dL_law_1606 ?_
    refine zV_if_eq (tgt := 1614) O dL_law_1607 (by decide) (fun hc => ?_) (fun hc => ?_)
    · replace hM := hM.1 hc
      refine zV_iconst (z := 0) O ⟨by omega, by omega⟩ dL_law_1614 ?_
      refine zV_aload_n O dL_law_1615 rfl rfl ?_
      refine zV_iload O dL_law_1616 rfl ?_
      refine zV_iconst (z := 3) O ⟨by omega, by omega⟩ dL_law_1618 ?_
      obtain ⟨hc, hM⟩ := hM
      refine zV_iadd O dL_law_1619 hc ?_
      obtain ⟨hc, hM⟩ := hM
      refine zV_sld O hS hc dL_law_1620 ?_
      refine zV_aload_n O dL_law_1621 rfl rfl ?_
      refine zV_iload O dL_law_1622 rfl ?_
      refine zV_iconst (z := 4) O ⟨by omega, by omega⟩ dL_law_1624 ?_
      obtain ⟨hc, hM⟩ := hM
      refine zV_iadd O dL_law_1625 hc ?_
      obtain ⟨hc, hM⟩ := hM
      refine zV_sld O hS hc dL_law_1626 ?_
      refine zV_callV (as := [aI (sc (v4 + 1)), aI 0, aI (sc (v4 + 3)), aI (sc (v4 + 4))]) (st := []) O zc_X8_addRule (Or.inl zl_RL_208) zi_1803 zi_1804 zt_185 rfl rfl (by decide) (by first | exact Nat.le_of_ble_eq_true rfl | (show _ ≤ 601024; omega) | (show _ ≤ 7293034; omega)) rfl rfl (by first | exact Nat.le_of_ble_eq_true rfl | (show _ ≤ 601024; omega) | (show _ ≤ 7293034; omega)) (by first | exact Nat.le_of_ble_eq_true rfl | (show _ ≤ 601024; omega) | (show _ ≤ 7293034; omega)) (by first | exact Nat.le_of_ble_eq_true rfl | (show _ ≤ 601024; omega) | (show _ ≤ 7293034; omega)) (by first | exact Nat.le_of_ble_eq_true rfl | (show _ ≤ 601024; omega) | (show _ ≤ 7293034; omega)) (by first | exact Nat.le_of_ble_eq_true rfl | (show _ ≤ 601024; omega) | (show _ ≤ 7293034; omega)) (by first | exact Nat.le_of_ble_eq_true rfl | (show _ ≤ 601024; omega) | (show _ ≤ 7293034; omega)) dL_law_1627 (sX8_addRule hM) (fun r h12 hq => ?_) (fun x h9 hq => hq.elim)
      obtain ⟨z11, rfl, hM⟩ := hq
      refine zV_istore O dL_law_1630 (by first | exact Nat.le_of_ble_eq_true rfl | (show _ ≤ 601024; omega) | (show _ ≤ 7293034; omega)) rfl ?_
      refine zV_aload_n O dL_law_1632 rfl rfl ?_
      refine zV_callV (as := []) (st := []) O zc_X8_thrown (Or.inl zl_RL_100) zi_1295 zi_1296 zt_185 rfl rfl (by decide) (by first | exact Nat.le_of_ble_eq_true rfl | (show _ ≤ 601024; omega) | (show _ ≤ 7293034; omega)) rfl rfl (by first | exact Nat.le_of_ble_eq_true rfl | (show _ ≤ 601024; omega) | (show _ ≤ 7293034; omega)) (by first | exact Nat.le_of_ble_eq_true rfl | (show _ ≤ 601024; omega) | (show _ ≤ 7293034; omega)) (by first | exact Nat.le_of_ble_eq_true rfl | (show _ ≤ 601024; omega) | (show _ ≤ 7293034; omega)) (by first | exact Nat.le_of_ble_eq_true rfl | (show _ ≤ 601024; omega) | (show _ ≤ 7293034; omega)) (by first | exact Nat.le_of_ble_eq_true rfl | (show _ ≤ 601024; omega) | (show _ ≤ 7293034; omega)) (by first | exact Nat.le_of_ble_eq_true rfl | (show _ ≤ 601024; omega) | (show _ ≤ 7293034; omega)) dL_law_1633 (sX8_thrown hM) (fun r h9 hq => ?_) (fun x h9 hq => hq.elim)
      obtain ⟨rfl, z13, rfl, hM⟩ := hq
      refine zV_iload O dL_law_1636 rfl ?_
      refine zV_icmp_eq (tgt := 1643) O dL_law_1638 (by decide) (fun hc => ?_) (fun hc => ?_)
      · replace hM := hM.1 hc
        refine zV_iload O dL_law_1643 rfl ?_
        refine zV_if_ne (tgt := 1660) O dL_law_1645 (by decide) (fun hc => ?_) (fun hc => ?_)
        · replace hM := hM.1 hc
          refine zV_goto (tgt := 2046) O dL_law_1660 (by decide) ?_
          refine zV_sub (ls2 := [some (aA (b + 1)), some (aR 169), some (aR 185), some (aR 197), some (aI v4), none, none, none, none]) ⟨rfl, rfl, rfl, rfl, rfl, trivial⟩ ?_
          exact hK _ _ _ _ (by omega) (by omega) hM
        · replace hM := hM.2 hc
          refine zV_aload_n O dL_law_1648 rfl rfl ?_
          refine zV_iconst (z := 0) O ⟨by omega, by omega⟩ dL_law_1649 ?_
          obtain ⟨hc, hM⟩ := hM
          refine zV_lald O zt_197 (by decide) hc dL_law_1650 ?_
          refine zV_iload O dL_law_1651 rfl ?_
          refine zV_i2l O dL_law_1653 ?_
          refine zV_lcmp O dL_law_1654 ?_
          refine zV_if_eq (tgt := 1660) O dL_law_1655 (by decide) (fun hc => ?_) (fun hc => ?_)
          · replace hM := hM.1 hc
            refine zV_goto (tgt := 2046) O dL_law_1660 (by decide) ?_
            refine zV_sub (ls2 := [some (aA (b + 1)), some (aR 169), some (aR 185), some (aR 197), some (aI v4), none, none, none, none]) ⟨rfl, rfl, rfl, rfl, rfl, trivial⟩ ?_
            exact hK _ _ _ _ (by omega) (by omega) hM
          · replace hM := hM.2 hc
            refine zV_iconst (z := 0) O ⟨by omega, by omega⟩ dL_law_1658 ?_
            exact zV_zret O rfl (Or.inl rfl) ⟨_, rfl, (Or.inl rfl), hM⟩ (by first | exact Nat.le_of_ble_eq_true rfl | (show _ ≤ 601024; omega) | (show _ ≤ 7293034; omega)) (by first | exact Nat.le_of_ble_eq_true rfl | (show _ ≤ 601024; omega) | (show _ ≤ 7293034; omega)) dL_law_1659
      · replace hM := hM.2 hc
        refine zV_iconst (z := 0) O ⟨by omega, by omega⟩ dL_law_1641 ?_
        exact zV_zret O rfl (Or.inl rfl) ⟨_, rfl, (Or.inl rfl), hM⟩ (by first | exact Nat.le_of_ble_eq_true rfl | (show _ ≤ 601024; omega) | (show _ ≤ 7293034; omega)) (by first | exact Nat.le_of_ble_eq_true rfl | (show _ ≤ 601024; omega) | (show _ ≤ 7293034; omega)) dL_law_1642
    · replace hM := hM.2 hc
      refine zV_iconst (z := 1) O ⟨by omega, by omega⟩ dL_law_1610 ?_
      refine zV_goto (tgt := 1615) O dL_law_1611 (by decide) ?_
      refine zV_aload_n O dL_law_1615 rfl rfl ?_
      refine zV_iload O dL_law_1616 rfl ?_
      refine zV_iconst (z := 3) O ⟨by omega, by omega⟩ dL_law_1618 ?_
      obtain ⟨hc, hM⟩ := hM
      refine zV_iadd O dL_law_1619 hc ?_
      obtain ⟨hc, hM⟩ := hM
      refine zV_sld O hS hc dL_law_1620 ?_
      refine zV_aload_n O dL_law_1621 rfl rfl ?_
      refine zV_iload O dL_law_1622 rfl ?_
      refine zV_iconst (z := 4) O ⟨by omega, by omega⟩ dL_law_1624 ?_
      obtain ⟨hc, hM⟩ := hM
      refine zV_iadd O dL_law_1625 hc ?_
      obtain ⟨hc, hM⟩ := hM
      refine zV_sld O hS hc dL_law_1626 ?_
      refine zV_callV (as := [aI (sc (v4 + 1)), aI 1, aI (sc (v4 + 3)), aI (sc (v4 + 4))]) (st := []) O zc_X8_addRule (Or.inl zl_RL_208) zi_1803 zi_1804 zt_185 rfl rfl (by decide) (by first | exact Nat.le_of_ble_eq_true rfl | (show _ ≤ 601024; omega) | (show _ ≤ 7293034; omega)) rfl rfl (by first | exact Nat.le_of_ble_eq_true rfl | (show _ ≤ 601024; omega) | (show _ ≤ 7293034; omega)) (by first | exact Nat.le_of_ble_eq_true rfl | (show _ ≤ 601024; omega) | (show _ ≤ 7293034; omega)) (by first | exact Nat.le_of_ble_eq_true rfl | (show _ ≤ 601024; omega) | (show _ ≤ 7293034; omega)) (by first | exact Nat.le_of_ble_eq_true rfl | (show _ ≤ 601024; omega) | (show _ ≤ 7293034; omega)) (by first | exact Nat.le_of_ble_eq_true rfl | (show _ ≤ 601024; omega) | (show _ ≤ 7293034; omega)) (by first | exact Nat.le_of_ble_eq_true rfl | (show _ ≤ 601024; omega) | (show _ ≤ 7293034; omega)) dL_law_1627 (sX8_addRule hM) (fun r h15 hq => ?_) (fun x h9 hq => hq.elim)
      obtain ⟨z14, rfl, hM⟩ := hq
      refine zV_istore O dL_law_1630 (by first | exact Nat.le_of_ble_eq_true rfl | (show _ ≤ 601024; omega) | (show _ ≤ 7293034; omega)) rfl ?_
      refine zV_aload_n O dL_law_1632 rfl rfl ?_
      refine zV_callV (as := []) (st := []) O zc_X8_thrown (Or.inl zl_RL_100) zi_1295 zi_1296 zt_185 rfl rfl (by decide) (by first | exact Nat.le_of_ble_eq_true rfl | (show _ ≤ 601024; omega) | (show _ ≤ 7293034; omega)) rfl rfl (by first | exact Nat.le_of_ble_eq_true rfl | (show _ ≤ 601024; omega) | (show _ ≤ 7293034; omega)) (by first | exact Nat.le_of_ble_eq_true rfl | (show _ ≤ 601024; omega) | (show _ ≤ 7293034; omega)) (by first | exact Nat.le_of_ble_eq_true rfl | (show _ ≤ 601024; omega) | (show _ ≤ 7293034; omega)) (by first | exact Nat.le_of_ble_eq_true rfl | (show _ ≤ 601024; omega) | (show _ ≤ 7293034; omega)) (by first | exact Nat.le_of_ble_eq_true rfl | (show _ ≤ 601024; omega) | (show _ ≤ 7293034; omega)) (by first | exact Nat.le_of_ble_eq_true rfl | (show _ ≤ 601024; omega) | (show _ ≤ 7293034; omega)) dL_law_1633 (sX8_thrown hM) (fun r h9 hq => ?_) (fun x h9 hq => hq.elim)
      obtain ⟨rfl, z16, rfl, hM⟩ := hq
      refine zV_iload O dL_law_1636 rfl ?_
      refine zV_icmp_eq (tgt := 1643) O dL_law_1638 (by decide) (fun hc => ?_) (fun hc => ?_)
      · replace hM := hM.1 hc
        refine zV_iload O dL_law_1643 rfl ?_
        refine zV_if_ne (tgt := 1660) O dL_law_1645 (by decide) (fun hc => ?_) (fun hc => ?_)
        · replace hM := hM.1 hc
          refine zV_goto (tgt := 2046) O dL_law_1660 (by decide) ?_
          refine zV_sub (ls2 := [some (aA (b + 1)), some (aR 169), some (aR 185), some (aR 197), some (aI v4), none, none, none, none]) ⟨rfl, rfl, rfl, rfl, rfl, trivial⟩ ?_
          exact hK _ _ _ _ (by omega) (by omega) hM
        · replace hM := hM.2 hc
          refine zV_aload_n O dL_law_1648 rfl rfl ?_
          refine zV_iconst (z := 0) O ⟨by omega, by omega⟩ dL_law_1649 ?_
          obtain ⟨hc, hM⟩ := hM
          refine zV_lald O zt_197 (by decide) hc dL_law_1650 ?_
          refine zV_iload O dL_law_1651 rfl ?_
          refine zV_i2l O dL_law_1653 ?_
          refine zV_lcmp O dL_law_1654 ?_
          refine zV_if_eq (tgt := 1660) O dL_law_1655 (by decide) (fun hc => ?_) (fun hc => ?_)
          · replace hM := hM.1 hc
            refine zV_goto (tgt := 2046) O dL_law_1660 (by decide) ?_
            refine zV_sub (ls2 := [some (aA (b + 1)), some (aR 169), some (aR 185), some (aR 197), some (aI v4), none, none, none, none]) ⟨rfl, rfl, rfl, rfl, rfl, trivial⟩ ?_
            exact hK _ _ _ _ (by omega) (by omega) hM
          · replace hM := hM.2 hc
            refine zV_iconst (z := 0) O ⟨by omega, by omega⟩ dL_law_1658 ?_
            exact zV_zret O rfl (Or.inl rfl) ⟨_, rfl, (Or.inl rfl), hM⟩ (by first | exact Nat.le_of_ble_eq_true rfl | (show _ ≤ 601024; omega) | (show _ ≤ 7293034; omega)) (by first | exact Nat.le_of_ble_eq_true rfl | (show _ ≤ 601024; omega) | (show _ ≤ 7293034; omega)) dL_law_1659
      · replace hM := hM.2 hc
        refine zV_iconst (z := 0) O ⟨by omega, by omega⟩ dL_law_1641 ?_
        exact zV_zret O rfl (Or.inl rfl) ⟨_, rfl, (Or.inl rfl), hM⟩ (by first | exact Nat.le_of_ble_eq_true rfl | (show _ ≤ 601024; omega) | (show _ ≤ 7293034; omega)) (by first | exact Nat.le_of_ble_eq_true rfl | (show _ ≤ 601024; omega) | (show _ ≤ 7293034; omega)) dL_law_1642
def mW_31 (sc : Int → Int) (L : Int) (Q : Int → Hp → Prop) (K : Int → Hp → Prop) (v4 : Int) (h : Hp) : Prop := (zr (v4 + 1) ∧ (((0 : Int) ≤ (v4 + 1) ∧ (v4 + 1) < L) ∧ (mL_removeRule (sc (v4 + 1)) h (fun z1 h2 => (zr (v4 + 1) ∧ (((0 : Int) ≤ (v4 + 1) ∧ (v4 + 1) < L) ∧ (mX8_removeRule (sc (v4 + 1)) h2 (fun z3 h4 => (mX8_thrown h4 (fun z5 => ((z5 = z1 → ((¬ z1 = 0 → (K v4 h4)) ∧ (z1 = 0 → (((0 : Int) ≤ 0 ∧ (0 : Int) < 1) ∧ (((zlcmp (rd h4 197 0) z3) = 0 → (K v4 h4)) ∧ (¬ (zlcmp (rd h4 197 0) z3) = 0 → (Q 0 h4))))))) ∧ (¬ z5 = z1 → (Q 0 h4)))))))))))))
set_option maxHeartbeats 4000000 in
set_option maxRecDepth 100000 in
theorem sW_31 {l0 : Launch} {a : ZC} {b : Nat} {L : Int} {sc : Int → Int} {Q : Int → Hp → Prop} {K : Int → Hp → Prop} {k n : Nat} {v4 : Int} {h : Hp} (O : zOk l0 a cL_law RL 9 (some .boolean) 198 []) (hS : zScr a b L sc) (hk : k ≤ 600000) (hn : n ≤ 7200000) (hK : ∀ (k2 n2 : Nat) (v4 : Int) (h : Hp), k2 ≤ k + 1 → n2 ≤ n + 6 → K v4 h → zV a (2048, 601024, 7293034, (qZ Q), xN) k2 n2 2046 [some (aA (b + 1)), some (aR 169), some (aR 185), some (aR 197), some (aI v4), none, none, none, none] [] h) (hM : mW_31 sc L Q K v4 h) : zV a (2048, 601024, 7293034, (qZ Q), xN) k n 1663 [some (aA (b + 1)), some (aR 169), some (aR 185), some (aR 197), some (aI v4), none, none, none, none] [] h := by
  unfold mW_31 at hM
  refine zV_aload_n O dL_law_1663 rfl rfl ?_
  refine zV_aload_n O dL_law_1664 rfl rfl ?_
  refine zV_iload O dL_law_1665 rfl ?_
  refine zV_iconst (z := 1) O ⟨by omega, by omega⟩ dL_law_1667 ?_
  obtain ⟨hc, hM⟩ := hM
  refine zV_iadd O dL_law_1668 hc ?_
  obtain ⟨hc, hM⟩ := hM
  refine zV_sld O hS hc dL_law_1669 ?_
  refine zV_aload_n O dL_law_1670 rfl rfl ?_
  refine zV_callSH (as := [aR 169, aI (sc (v4 + 1)), aR 197]) (st := []) O zch_L_removeRule.1 zch_L_removeRule.2.1 zch_L_removeRule.2.2.1 zch_L_removeRule.2.2.2 zl_RL_209 zi_1155 (by first | exact Nat.le_of_ble_eq_true rfl | (show _ ≤ 601024; omega) | (show _ ≤ 7293034; omega)) rfl rfl (by first | exact Nat.le_of_ble_eq_true rfl | (show _ ≤ 601024; omega) | (show _ ≤ 7293034; omega)) (by first | exact Nat.le_of_ble_eq_true rfl | (show _ ≤ 601024; omega) | (show _ ≤ 7293034; omega)) (by first | exact Nat.le_of_ble_eq_true rfl | (show _ ≤ 601024; omega) | (show _ ≤ 7293034; omega)) (by first | exact Nat.le_of_ble_eq_true rfl | (show _ ≤ 601024; omega) | (show _ ≤ 7293034; omega)) (by first | exact Nat.le_of_ble_eq_true rfl | (show _ ≤ 601024; omega) | (show _ ≤ 7293034; omega)) (by first | exact Nat.le_of_ble_eq_true rfl | (show _ ≤ 601024; omega) | (show _ ≤ 7293034; omega)) dL_law_1671 (sL_removeRule hM) (fun r h2 hq => ?_) (fun x h9 hq => hq.elim)
  obtain ⟨z1, rfl, hM⟩ := hq
  refine zV_istore O dL_law_1674 (by first | exact Nat.le_of_ble_eq_true rfl | (show _ ≤ 601024; omega) | (show _ ≤ 7293034; omega)) rfl ?_
  refine zV_aload_n O dL_law_1676 rfl rfl ?_
  refine zV_aload_n O dL_law_1677 rfl rfl ?_
  refine zV_iload O dL_law_1678 rfl ?_
  refine zV_iconst (z := 1) O ⟨by omega, by omega⟩ dL_law_1680 ?_
  obtain ⟨hc, hM⟩ := hM
  refine zV_iadd O dL_law_1681 hc ?_
  obtain ⟨hc, hM⟩ := hM
  refine zV_sld O hS hc dL_law_1682 ?_
  refine zV_callV (as := [aI (sc (v4 + 1))]) (st := []) O zc_X8_removeRule (Or.inl zl_RL_211) zi_1810 zi_1811 zt_185 rfl rfl (by decide) (by first | exact Nat.le_of_ble_eq_true rfl | (show _ ≤ 601024; omega) | (show _ ≤ 7293034; omega)) rfl rfl (by first | exact Nat.le_of_ble_eq_true rfl | (show _ ≤ 601024; omega) | (show _ ≤ 7293034; omega)) (by first | exact Nat.le_of_ble_eq_true rfl | (show _ ≤ 601024; omega) | (show _ ≤ 7293034; omega)) (by first | exact Nat.le_of_ble_eq_true rfl | (show _ ≤ 601024; omega) | (show _ ≤ 7293034; omega)) (by first | exact Nat.le_of_ble_eq_true rfl | (show _ ≤ 601024; omega) | (show _ ≤ 7293034; omega)) (by first | exact Nat.le_of_ble_eq_true rfl | (show _ ≤ 601024; omega) | (show _ ≤ 7293034; omega)) (by first | exact Nat.le_of_ble_eq_true rfl | (show _ ≤ 601024; omega) | (show _ ≤ 7293034; omega)) dL_law_1683 (sX8_removeRule hM) (fun r h4 hq => ?_) (fun x h9 hq => hq.elim)
  obtain ⟨z3, rfl, hM⟩ := hq
  refine zV_istore O dL_law_1686 (by first | exact Nat.le_of_ble_eq_true rfl | (show _ ≤ 601024; omega) | (show _ ≤ 7293034; omega)) rfl ?_
  refine zV_aload_n O dL_law_1688 rfl rfl ?_
  refine zV_callV (as := []) (st := []) O zc_X8_thrown (Or.inl zl_RL_100) zi_1295 zi_1296 zt_185 rfl rfl (by decide) (by first | exact Nat.le_of_ble_eq_true rfl | (show _ ≤ 601024; omega) | (show _ ≤ 7293034; omega)) rfl rfl (by first | exact Nat.le_of_ble_eq_true rfl | (show _ ≤ 601024; omega) | (show _ ≤ 7293034; omega)) (by first | exact Nat.le_of_ble_eq_true rfl | (show _ ≤ 601024; omega) | (show _ ≤ 7293034; omega)) (by first | exact Nat.le_of_ble_eq_true rfl | (show _ ≤ 601024; omega) | (show _ ≤ 7293034; omega)) (by first | exact Nat.le_of_ble_eq_true rfl | (show _ ≤ 601024; omega) | (show _ ≤ 7293034; omega)) (by first | exact Nat.le_of_ble_eq_true rfl | (show _ ≤ 601024; omega) | (show _ ≤ 7293034; omega)) (by first | exact Nat.le_of_ble_eq_true rfl | (show _ ≤ 601024; omega) | (show _ ≤ 7293034; omega)) dL_law_1689 (sX8_thrown hM) (fun r h9 hq => ?_) (fun x h9 hq => hq.elim)
  obtain ⟨rfl, z5, rfl, hM⟩ := hq
  refine zV_iload O dL_law_1692 rfl ?_
  refine zV_icmp_eq (tgt := 1699) O dL_law_1694 (by decide) (fun hc => ?_) (fun hc => ?_)
  · replace hM := hM.1 hc
    refine zV_iload O dL_law_1699 rfl ?_
    refine zV_if_ne (tgt := 1716) O dL_law_1701 (by decide) (fun hc => ?_) (fun hc => ?_)
    · replace hM := hM.1 hc
      refine zV_goto (tgt := 2046) O dL_law_1716 (by decide) ?_
      refine zV_sub (ls2 := [some (aA (b + 1)), some (aR 169), some (aR 185), some (aR 197), some (aI v4), none, none, none, none]) ⟨rfl, rfl, rfl, rfl, rfl, trivial⟩ ?_
      exact hK _ _ _ _ (by omega) (by omega) hM
    · replace hM := hM.2 hc
      refine zV_aload_n O dL_law_1704 rfl rfl ?_
      refine zV_iconst (z := 0) O ⟨by omega, by omega⟩ dL_law_1705 ?_
      obtain ⟨hc, hM⟩ := hM
      refine zV_lald O zt_197 (by decide) hc dL_law_1706 ?_
      refine zV_iload O dL_law_1707 rfl ?_
      refine zV_i2l O dL_law_1709 ?_
      refine zV_lcmp O dL_law_1710 ?_
      refine zV_if_eq (tgt := 1716) O dL_law_1711 (by decide) (fun hc => ?_) (fun hc => ?_)
      · replace hM := hM.1 hc
        refine zV_goto (tgt := 2046) O dL_law_1716 (by decide) ?_
        refine zV_sub (ls2 := [some (aA (b + 1)), some (aR 169), some (aR 185), some (aR 197), some (aI v4), none, none, none, none]) ⟨rfl, rfl, rfl, rfl, rfl, trivial⟩ ?_
        exact hK _ _ _ _ (by omega) (by omega) hM
      · replace hM := hM.2 hc
        refine zV_iconst (z := 0) O ⟨by omega, by omega⟩ dL_law_1714 ?_
        exact zV_zret O rfl (Or.inl rfl) ⟨_, rfl, (Or.inl rfl), hM⟩ (by first | exact Nat.le_of_ble_eq_true rfl | (show _ ≤ 601024; omega) | (show _ ≤ 7293034; omega)) (by first | exact Nat.le_of_ble_eq_true rfl | (show _ ≤ 601024; omega) | (show _ ≤ 7293034; omega)) dL_law_1715
  · replace hM := hM.2 hc
    refine zV_iconst (z := 0) O ⟨by omega, by omega⟩ dL_law_1697 ?_
    exact zV_zret O rfl (Or.inl rfl) ⟨_, rfl, (Or.inl rfl), hM⟩ (by first | exact Nat.le_of_ble_eq_true rfl | (show _ ≤ 601024; omega) | (show _ ≤ 7293034; omega)) (by first | exact Nat.le_of_ble_eq_true rfl | (show _ ≤ 601024; omega) | (show _ ≤ 7293034; omega)) dL_law_1698
def mW_32 (sc : Int → Int) (L : Int) (Q : Int → Hp → Prop) (K : Int → Hp → Prop) (v4 : Int) (h : Hp) : Prop := (zr (v4 + 1) ∧ (((0 : Int) ≤ (v4 + 1) ∧ (v4 + 1) < L) ∧ (mL_setKeep (sc (v4 + 1)) h (fun z1 h2 => (zr (v4 + 1) ∧ (((0 : Int) ≤ (v4 + 1) ∧ (v4 + 1) < L) ∧ (mX8_setKeep (sc (v4 + 1)) h2 (fun z3 h4 => (mX8_thrown h4 (fun z5 => ((z5 = z1 → ((¬ z1 = 0 → (K v4 h4)) ∧ (z1 = 0 → (((0 : Int) ≤ 0 ∧ (0 : Int) < 1) ∧ (((zlcmp (rd h4 197 0) z3) = 0 → (K v4 h4)) ∧ (¬ (zlcmp (rd h4 197 0) z3) = 0 → (Q 0 h4))))))) ∧ (¬ z5 = z1 → (Q 0 h4)))))))))))))
set_option maxHeartbeats 4000000 in
set_option maxRecDepth 100000 in
theorem sW_32 {l0 : Launch} {a : ZC} {b : Nat} {L : Int} {sc : Int → Int} {Q : Int → Hp → Prop} {K : Int → Hp → Prop} {k n : Nat} {v4 : Int} {h : Hp} (O : zOk l0 a cL_law RL 9 (some .boolean) 198 []) (hS : zScr a b L sc) (hk : k ≤ 600000) (hn : n ≤ 7200000) (hK : ∀ (k2 n2 : Nat) (v4 : Int) (h : Hp), k2 ≤ k + 1 → n2 ≤ n + 6 → K v4 h → zV a (2048, 601024, 7293034, (qZ Q), xN) k2 n2 2046 [some (aA (b + 1)), some (aR 169), some (aR 185), some (aR 197), some (aI v4), none, none, none, none] [] h) (hM : mW_32 sc L Q K v4 h) : zV a (2048, 601024, 7293034, (qZ Q), xN) k n 1719 [some (aA (b + 1)), some (aR 169), some (aR 185), some (aR 197), some (aI v4), none, none, none, none] [] h := by
  unfold mW_32 at hM
  refine zV_aload_n O dL_law_1719 rfl rfl ?_
  refine zV_aload_n O dL_law_1720 rfl rfl ?_
  refine zV_iload O dL_law_1721 rfl ?_
  refine zV_iconst (z := 1) O ⟨by omega, by omega⟩ dL_law_1723 ?_
  obtain ⟨hc, hM⟩ := hM
  refine zV_iadd O dL_law_1724 hc ?_
  obtain ⟨hc, hM⟩ := hM
  refine zV_sld O hS hc dL_law_1725 ?_
  refine zV_aload_n O dL_law_1726 rfl rfl ?_
  refine zV_callSH (as := [aR 169, aI (sc (v4 + 1)), aR 197]) (st := []) O zch_L_setKeep.1 zch_L_setKeep.2.1 zch_L_setKeep.2.2.1 zch_L_setKeep.2.2.2 zl_RL_212 zi_1166 (by first | exact Nat.le_of_ble_eq_true rfl | (show _ ≤ 601024; omega) | (show _ ≤ 7293034; omega)) rfl rfl (by first | exact Nat.le_of_ble_eq_true rfl | (show _ ≤ 601024; omega) | (show _ ≤ 7293034; omega)) (by first | exact Nat.le_of_ble_eq_true rfl | (show _ ≤ 601024; omega) | (show _ ≤ 7293034; omega)) (by first | exact Nat.le_of_ble_eq_true rfl | (show _ ≤ 601024; omega) | (show _ ≤ 7293034; omega)) (by first | exact Nat.le_of_ble_eq_true rfl | (show _ ≤ 601024; omega) | (show _ ≤ 7293034; omega)) (by first | exact Nat.le_of_ble_eq_true rfl | (show _ ≤ 601024; omega) | (show _ ≤ 7293034; omega)) (by first | exact Nat.le_of_ble_eq_true rfl | (show _ ≤ 601024; omega) | (show _ ≤ 7293034; omega)) dL_law_1727 (sL_setKeep hM) (fun r h2 hq => ?_) (fun x h9 hq => hq.elim)
  obtain ⟨z1, rfl, hM⟩ := hq
  refine zV_istore O dL_law_1730 (by first | exact Nat.le_of_ble_eq_true rfl | (show _ ≤ 601024; omega) | (show _ ≤ 7293034; omega)) rfl ?_
  refine zV_aload_n O dL_law_1732 rfl rfl ?_
  refine zV_aload_n O dL_law_1733 rfl rfl ?_
  refine zV_iload O dL_law_1734 rfl ?_
  refine zV_iconst (z := 1) O ⟨by omega, by omega⟩ dL_law_1736 ?_
  obtain ⟨hc, hM⟩ := hM
  refine zV_iadd O dL_law_1737 hc ?_
  obtain ⟨hc, hM⟩ := hM
  refine zV_sld O hS hc dL_law_1738 ?_
  refine zV_callV (as := [aI (sc (v4 + 1))]) (st := []) O zc_X8_setKeep (Or.inl zl_RL_214) zi_1814 zi_1815 zt_185 rfl rfl (by decide) (by first | exact Nat.le_of_ble_eq_true rfl | (show _ ≤ 601024; omega) | (show _ ≤ 7293034; omega)) rfl rfl (by first | exact Nat.le_of_ble_eq_true rfl | (show _ ≤ 601024; omega) | (show _ ≤ 7293034; omega)) (by first | exact Nat.le_of_ble_eq_true rfl | (show _ ≤ 601024; omega) | (show _ ≤ 7293034; omega)) (by first | exact Nat.le_of_ble_eq_true rfl | (show _ ≤ 601024; omega) | (show _ ≤ 7293034; omega)) (by first | exact Nat.le_of_ble_eq_true rfl | (show _ ≤ 601024; omega) | (show _ ≤ 7293034; omega)) (by first | exact Nat.le_of_ble_eq_true rfl | (show _ ≤ 601024; omega) | (show _ ≤ 7293034; omega)) (by first | exact Nat.le_of_ble_eq_true rfl | (show _ ≤ 601024; omega) | (show _ ≤ 7293034; omega)) dL_law_1739 (sX8_setKeep hM) (fun r h4 hq => ?_) (fun x h9 hq => hq.elim)
  obtain ⟨z3, rfl, hM⟩ := hq
  refine zV_istore O dL_law_1742 (by first | exact Nat.le_of_ble_eq_true rfl | (show _ ≤ 601024; omega) | (show _ ≤ 7293034; omega)) rfl ?_
  refine zV_aload_n O dL_law_1744 rfl rfl ?_
  refine zV_callV (as := []) (st := []) O zc_X8_thrown (Or.inl zl_RL_100) zi_1295 zi_1296 zt_185 rfl rfl (by decide) (by first | exact Nat.le_of_ble_eq_true rfl | (show _ ≤ 601024; omega) | (show _ ≤ 7293034; omega)) rfl rfl (by first | exact Nat.le_of_ble_eq_true rfl | (show _ ≤ 601024; omega) | (show _ ≤ 7293034; omega)) (by first | exact Nat.le_of_ble_eq_true rfl | (show _ ≤ 601024; omega) | (show _ ≤ 7293034; omega)) (by first | exact Nat.le_of_ble_eq_true rfl | (show _ ≤ 601024; omega) | (show _ ≤ 7293034; omega)) (by first | exact Nat.le_of_ble_eq_true rfl | (show _ ≤ 601024; omega) | (show _ ≤ 7293034; omega)) (by first | exact Nat.le_of_ble_eq_true rfl | (show _ ≤ 601024; omega) | (show _ ≤ 7293034; omega)) (by first | exact Nat.le_of_ble_eq_true rfl | (show _ ≤ 601024; omega) | (show _ ≤ 7293034; omega)) dL_law_1745 (sX8_thrown hM) (fun r h9 hq => ?_) (fun x h9 hq => hq.elim)
  obtain ⟨rfl, z5, rfl, hM⟩ := hq
  refine zV_iload O dL_law_1748 rfl ?_
  refine zV_icmp_eq (tgt := 1755) O dL_law_1750 (by decide) (fun hc => ?_) (fun hc => ?_)
  · replace hM := hM.1 hc
    refine zV_iload O dL_law_1755 rfl ?_
    refine zV_if_ne (tgt := 1772) O dL_law_1757 (by decide) (fun hc => ?_) (fun hc => ?_)
    · replace hM := hM.1 hc
      refine zV_goto (tgt := 2046) O dL_law_1772 (by decide) ?_
      refine zV_sub (ls2 := [some (aA (b + 1)), some (aR 169), some (aR 185), some (aR 197), some (aI v4), none, none, none, none]) ⟨rfl, rfl, rfl, rfl, rfl, trivial⟩ ?_
      exact hK _ _ _ _ (by omega) (by omega) hM
    · replace hM := hM.2 hc
      refine zV_aload_n O dL_law_1760 rfl rfl ?_
      refine zV_iconst (z := 0) O ⟨by omega, by omega⟩ dL_law_1761 ?_
      obtain ⟨hc, hM⟩ := hM
      refine zV_lald O zt_197 (by decide) hc dL_law_1762 ?_
      refine zV_iload O dL_law_1763 rfl ?_
      refine zV_i2l O dL_law_1765 ?_
      refine zV_lcmp O dL_law_1766 ?_
      refine zV_if_eq (tgt := 1772) O dL_law_1767 (by decide) (fun hc => ?_) (fun hc => ?_)
      · replace hM := hM.1 hc
        refine zV_goto (tgt := 2046) O dL_law_1772 (by decide) ?_
        refine zV_sub (ls2 := [some (aA (b + 1)), some (aR 169), some (aR 185), some (aR 197), some (aI v4), none, none, none, none]) ⟨rfl, rfl, rfl, rfl, rfl, trivial⟩ ?_
        exact hK _ _ _ _ (by omega) (by omega) hM
      · replace hM := hM.2 hc
        refine zV_iconst (z := 0) O ⟨by omega, by omega⟩ dL_law_1770 ?_
        exact zV_zret O rfl (Or.inl rfl) ⟨_, rfl, (Or.inl rfl), hM⟩ (by first | exact Nat.le_of_ble_eq_true rfl | (show _ ≤ 601024; omega) | (show _ ≤ 7293034; omega)) (by first | exact Nat.le_of_ble_eq_true rfl | (show _ ≤ 601024; omega) | (show _ ≤ 7293034; omega)) dL_law_1771
  · replace hM := hM.2 hc
    refine zV_iconst (z := 0) O ⟨by omega, by omega⟩ dL_law_1753 ?_
    exact zV_zret O rfl (Or.inl rfl) ⟨_, rfl, (Or.inl rfl), hM⟩ (by first | exact Nat.le_of_ble_eq_true rfl | (show _ ≤ 601024; omega) | (show _ ≤ 7293034; omega)) (by first | exact Nat.le_of_ble_eq_true rfl | (show _ ≤ 601024; omega) | (show _ ≤ 7293034; omega)) dL_law_1754
def mW_33 (sc : Int → Int) (L : Int) (Q : Int → Hp → Prop) (K : Int → Hp → Prop) (v4 : Int) (h : Hp) : Prop := (zr (v4 + 1) ∧ (((0 : Int) ≤ (v4 + 1) ∧ (v4 + 1) < L) ∧ (zr (v4 + 2) ∧ (((0 : Int) ≤ (v4 + 2) ∧ (v4 + 2) < L) ∧ (((sc (v4 + 2)) = 0 → (mL_setPinned (sc (v4 + 1)) 0 h (fun z1 h2 => (zr (v4 + 1) ∧ (((0 : Int) ≤ (v4 + 1) ∧ (v4 + 1) < L) ∧ (zr (v4 + 2) ∧ (((0 : Int) ≤ (v4 + 2) ∧ (v4 + 2) < L) ∧ (((sc (v4 + 2)) = 0 → (mX8_setPinned (sc (v4 + 1)) 0 h2 (fun z3 h4 => (mX8_thrown h4 (fun z5 => ((z5 = z1 → ((¬ z1 = 0 → (K v4 h4)) ∧ (z1 = 0 → (((0 : Int) ≤ 0 ∧ (0 : Int) < 1) ∧ (((zlcmp (rd h4 197 0) z3) = 0 → (K v4 h4)) ∧ (¬ (zlcmp (rd h4 197 0) z3) = 0 → (Q 0 h4))))))) ∧ (¬ z5 = z1 → (Q 0 h4)))))))) ∧ (¬ (sc (v4 + 2)) = 0 → (mX8_setPinned (sc (v4 + 1)) 1 h2 (fun z6 h7 => (mX8_thrown h7 (fun z8 => ((z8 = z1 → ((¬ z1 = 0 → (K v4 h7)) ∧ (z1 = 0 → (((0 : Int) ≤ 0 ∧ (0 : Int) < 1) ∧ (((zlcmp (rd h7 197 0) z6) = 0 → (K v4 h7)) ∧ (¬ (zlcmp (rd h7 197 0) z6) = 0 → (Q 0 h7))))))) ∧ (¬ z8 = z1 → (Q 0 h7)))))))))))))))) ∧ (¬ (sc (v4 + 2)) = 0 → (mL_setPinned (sc (v4 + 1)) 1 h (fun z9 h10 => (zr (v4 + 1) ∧ (((0 : Int) ≤ (v4 + 1) ∧ (v4 + 1) < L) ∧ (zr (v4 + 2) ∧ (((0 : Int) ≤ (v4 + 2) ∧ (v4 + 2) < L) ∧ (((sc (v4 + 2)) = 0 → (mX8_setPinned (sc (v4 + 1)) 0 h10 (fun z11 h12 => (mX8_thrown h12 (fun z13 => ((z13 = z9 → ((¬ z9 = 0 → (K v4 h12)) ∧ (z9 = 0 → (((0 : Int) ≤ 0 ∧ (0 : Int) < 1) ∧ (((zlcmp (rd h12 197 0) z11) = 0 → (K v4 h12)) ∧ (¬ (zlcmp (rd h12 197 0) z11) = 0 → (Q 0 h12))))))) ∧ (¬ z13 = z9 → (Q 0 h12)))))))) ∧ (¬ (sc (v4 + 2)) = 0 → (mX8_setPinned (sc (v4 + 1)) 1 h10 (fun z14 h15 => (mX8_thrown h15 (fun z16 => ((z16 = z9 → ((¬ z9 = 0 → (K v4 h15)) ∧ (z9 = 0 → (((0 : Int) ≤ 0 ∧ (0 : Int) < 1) ∧ (((zlcmp (rd h15 197 0) z14) = 0 → (K v4 h15)) ∧ (¬ (zlcmp (rd h15 197 0) z14) = 0 → (Q 0 h15))))))) ∧ (¬ z16 = z9 → (Q 0 h15)))))))))))))))))))))
set_option maxHeartbeats 4000000 in
set_option maxRecDepth 100000 in
theorem sW_33 {l0 : Launch} {a : ZC} {b : Nat} {L : Int} {sc : Int → Int} {Q : Int → Hp → Prop} {K : Int → Hp → Prop} {k n : Nat} {v4 : Int} {h : Hp} (O : zOk l0 a cL_law RL 9 (some .boolean) 198 []) (hS : zScr a b L sc) (hk : k ≤ 600000) (hn : n ≤ 7200000) (hK : ∀ (k2 n2 : Nat) (v4 : Int) (h : Hp), k2 ≤ k + 1 → n2 ≤ n + 6 → K v4 h → zV a (2048, 601024, 7293034, (qZ Q), xN) k2 n2 2046 [some (aA (b + 1)), some (aR 169), some (aR 185), some (aR 197), some (aI v4), none, none, none, none] [] h) (hM : mW_33 sc L Q K v4 h) : zV a (2048, 601024, 7293034, (qZ Q), xN) k n 1775 [some (aA (b + 1)), some (aR 169), some (aR 185), some (aR 197), some (aI v4), none, none, none, none] [] h := by
  unfold mW_33 at hM
  refine zV_aload_n O dL_law_1775 rfl rfl ?_
  refine zV_aload_n O dL_law_1776 rfl rfl ?_
  refine zV_iload O dL_law_1777 rfl ?_
  refine zV_iconst (z := 1) O ⟨by omega, by omega⟩ dL_law_1779 ?_
  obtain ⟨hc, hM⟩ := hM
  refine zV_iadd O dL_law_1780 hc ?_
  obtain ⟨hc, hM⟩ := hM
  refine zV_sld O hS hc dL_law_1781 ?_
  refine zV_aload_n O dL_law_1782 rfl rfl ?_
  refine zV_iload O dL_law_1783 rfl ?_
  refine zV_iconst (z := 2) O ⟨by omega, by omega⟩ dL_law_1785 ?_
  obtain ⟨hc, hM⟩ := hM
  refine zV_iadd O dL_law_1786 hc ?_
  obtain ⟨hc, hM⟩ := hM
  refine zV_sld O hS hc dL_law_1787 ?_
  refine zV_if_eq (tgt := 1795) O dL_law_1788 (by decide) (fun hc => ?_) (fun hc => ?_)
  · replace hM := hM.1 hc
    refine zV_iconst (z := 0) O ⟨by omega, by omega⟩ dL_law_1795 ?_
    refine zV_aload_n O dL_law_1796 rfl rfl ?_
    refine zV_callSH (as := [aR 169, aI (sc (v4 + 1)), aI 0, aR 197]) (st := []) O zch_L_setPinned.1 zch_L_setPinned.2.1 zch_L_setPinned.2.2.1 zch_L_setPinned.2.2.2 zl_RL_215 zi_1173 (by first | exact Nat.le_of_ble_eq_true rfl | (show _ ≤ 601024; omega) | (show _ ≤ 7293034; omega)) rfl rfl (by first | exact Nat.le_of_ble_eq_true rfl | (show _ ≤ 601024; omega) | (show _ ≤ 7293034; omega)) (by first | exact Nat.le_of_ble_eq_true rfl | (show _ ≤ 601024; omega) | (show _ ≤ 7293034; omega)) (by first | exact Nat.le_of_ble_eq_true rfl | (show _ ≤ 601024; omega) | (show _ ≤ 7293034; omega)) (by first | exact Nat.le_of_ble_eq_true rfl | (show _ ≤ 601024; omega) | (show _ ≤ 7293034; omega)) (by first | exact Nat.le_of_ble_eq_true rfl | (show _ ≤ 601024; omega) | (show _ ≤ 7293034; omega)) (by first | exact Nat.le_of_ble_eq_true rfl | (show _ ≤ 601024; omega) | (show _ ≤ 7293034; omega)) dL_law_1797 (sL_setPinned hM) (fun r h2 hq => ?_) (fun x h9 hq => hq.elim)
    obtain ⟨z1, rfl, hM⟩ := hq
    refine zV_istore O dL_law_1800 (by first | exact Nat.le_of_ble_eq_true rfl | (show _ ≤ 601024; omega) | (show _ ≤ 7293034; omega)) rfl ?_
    refine zV_aload_n O dL_law_1802 rfl rfl ?_
    refine zV_aload_n O dL_law_1803 rfl rfl ?_
    refine zV_iload O dL_law_1804 rfl ?_
    refine zV_iconst (z := 1) O ⟨by omega, by omega⟩ dL_law_1806 ?_
    obtain ⟨hc, hM⟩ := hM
    refine zV_iadd O dL_law_1807 hc ?_
    obtain ⟨hc, hM⟩ := hM
    refine zV_sld O hS hc dL_law_1808 ?_
    refine zV_aload_n O dL_law_1809 rfl rfl ?_
    refine zV_iload O dL_law_1810 rfl ?_
    refine zV_iconst (z := 2) O ⟨by omega, by omega⟩ dL_law_1812 ?_
    obtain ⟨hc, hM⟩ := hM
    refine zV_iadd O dL_law_1813 hc ?_
    obtain ⟨hc, hM⟩ := hM
    refine zV_sld O hS hc dL_law_1814 ?_
    refine zV_if_eq (tgt := 1822) O dL_law_1815 (by decide) (fun hc => ?_) (fun hc => ?_)
    · replace hM := hM.1 hc
      refine zV_iconst (z := 0) O ⟨by omega, by omega⟩ dL_law_1822 ?_
      refine zV_callV (as := [aI (sc (v4 + 1)), aI 0]) (st := []) O zc_X8_setPinned (Or.inl zl_RL_218) zi_1818 zi_1819 zt_185 rfl rfl (by decide) (by first | exact Nat.le_of_ble_eq_true rfl | (show _ ≤ 601024; omega) | (show _ ≤ 7293034; omega)) rfl rfl (by first | exact Nat.le_of_ble_eq_true rfl | (show _ ≤ 601024; omega) | (show _ ≤ 7293034; omega)) (by first | exact Nat.le_of_ble_eq_true rfl | (show _ ≤ 601024; omega) | (show _ ≤ 7293034; omega)) (by first | exact Nat.le_of_ble_eq_true rfl | (show _ ≤ 601024; omega) | (show _ ≤ 7293034; omega)) (by first | exact Nat.le_of_ble_eq_true rfl | (show _ ≤ 601024; omega) | (show _ ≤ 7293034; omega)) (by first | exact Nat.le_of_ble_eq_true rfl | (show _ ≤ 601024; omega) | (show _ ≤ 7293034; omega)) (by first | exact Nat.le_of_ble_eq_true rfl | (show _ ≤ 601024; omega) | (show _ ≤ 7293034; omega)) dL_law_1823 (sX8_setPinned hM) (fun r h4 hq => ?_) (fun x h9 hq => hq.elim)
      obtain ⟨z3, rfl, hM⟩ := hq
      refine zV_istore O dL_law_1826 (by first | exact Nat.le_of_ble_eq_true rfl | (show _ ≤ 601024; omega) | (show _ ≤ 7293034; omega)) rfl ?_
      refine zV_aload_n O dL_law_1828 rfl rfl ?_
      refine zV_callV (as := []) (st := []) O zc_X8_thrown (Or.inl zl_RL_100) zi_1295 zi_1296 zt_185 rfl rfl (by decide) (by first | exact Nat.le_of_ble_eq_true rfl | (show _ ≤ 601024; omega) | (show _ ≤ 7293034; omega)) rfl rfl (by first | exact Nat.le_of_ble_eq_true rfl | (show _ ≤ 601024; omega) | (show _ ≤ 7293034; omega)) (by first | exact Nat.le_of_ble_eq_true rfl | (show _ ≤ 601024; omega) | (show _ ≤ 7293034; omega)) (by first | exact Nat.le_of_ble_eq_true rfl | (show _ ≤ 601024; omega) | (show _ ≤ 7293034; omega)) (by first | exact Nat.le_of_ble_eq_true rfl | (show _ ≤ 601024; omega) | (show _ ≤ 7293034; omega)) (by first | exact Nat.le_of_ble_eq_true rfl | (show _ ≤ 601024; omega) | (show _ ≤ 7293034; omega)) (by first | exact Nat.le_of_ble_eq_true rfl | (show _ ≤ 601024; omega) | (show _ ≤ 7293034; omega)) dL_law_1829 (sX8_thrown hM) (fun r h9 hq => ?_) (fun x h9 hq => hq.elim)
      obtain ⟨rfl, z5, rfl, hM⟩ := hq
      refine zV_iload O dL_law_1832 rfl ?_
      refine zV_icmp_eq (tgt := 1839) O dL_law_1834 (by decide) (fun hc => ?_) (fun hc => ?_)
      · replace hM := hM.1 hc
        refine zV_iload O dL_law_1839 rfl ?_
        refine zV_if_ne (tgt := 1856) O dL_law_1841 (by decide) (fun hc => ?_) (fun hc => ?_)
        · replace hM := hM.1 hc
          refine zV_goto (tgt := 2046) O dL_law_1856 (by decide) ?_
          refine zV_sub (ls2 := [some (aA (b + 1)), some (aR 169), some (aR 185), some (aR 197), some (aI v4), none, none, none, none]) ⟨rfl, rfl, rfl, rfl, rfl, trivial⟩ ?_
          exact hK _ _ _ _ (by omega) (by omega) hM
        · replace hM := hM.2 hc
          refine zV_aload_n O dL_law_1844 rfl rfl ?_
          refine zV_iconst (z := 0) O ⟨by omega, by omega⟩ dL_law_1845 ?_
          obtain ⟨hc, hM⟩ := hM
          refine zV_lald O zt_197 (by decide) hc dL_law_1846 ?_
          refine zV_iload O dL_law_1847 rfl ?_
          refine zV_i2l O dL_law_1849 ?_
          refine zV_lcmp O dL_law_1850 ?_
          refine zV_if_eq (tgt := 1856) O dL_law_1851 (by decide) (fun hc => ?_) (fun hc => ?_)
          · replace hM := hM.1 hc
            refine zV_goto (tgt := 2046) O dL_law_1856 (by decide) ?_
            refine zV_sub (ls2 := [some (aA (b + 1)), some (aR 169), some (aR 185), some (aR 197), some (aI v4), none, none, none, none]) ⟨rfl, rfl, rfl, rfl, rfl, trivial⟩ ?_
            exact hK _ _ _ _ (by omega) (by omega) hM
          · replace hM := hM.2 hc
            refine zV_iconst (z := 0) O ⟨by omega, by omega⟩ dL_law_1854 ?_
            exact zV_zret O rfl (Or.inl rfl) ⟨_, rfl, (Or.inl rfl), hM⟩ (by first | exact Nat.le_of_ble_eq_true rfl | (show _ ≤ 601024; omega) | (show _ ≤ 7293034; omega)) (by first | exact Nat.le_of_ble_eq_true rfl | (show _ ≤ 601024; omega) | (show _ ≤ 7293034; omega)) dL_law_1855
      · replace hM := hM.2 hc
        refine zV_iconst (z := 0) O ⟨by omega, by omega⟩ dL_law_1837 ?_
        exact zV_zret O rfl (Or.inl rfl) ⟨_, rfl, (Or.inl rfl), hM⟩ (by first | exact Nat.le_of_ble_eq_true rfl | (show _ ≤ 601024; omega) | (show _ ≤ 7293034; omega)) (by first | exact Nat.le_of_ble_eq_true rfl | (show _ ≤ 601024; omega) | (show _ ≤ 7293034; omega)) dL_law_1838
    · replace hM := hM.2 hc
      refine zV_iconst (z := 1) O ⟨by omega, by omega⟩ dL_law_1818 ?_
      refine zV_goto (tgt := 1823) O dL_law_1819 (by decide) ?_
      refine zV_callV (as := [aI (sc (v4 + 1)), aI 1]) (st := []) O zc_X8_setPinned (Or.inl zl_RL_218) zi_1818 zi_1819 zt_185 rfl rfl (by decide) (by first | exact Nat.le_of_ble_eq_true rfl | (show _ ≤ 601024; omega) | (show _ ≤ 7293034; omega)) rfl rfl (by first | exact Nat.le_of_ble_eq_true rfl | (show _ ≤ 601024; omega) | (show _ ≤ 7293034; omega)) (by first | exact Nat.le_of_ble_eq_true rfl | (show _ ≤ 601024; omega) | (show _ ≤ 7293034; omega)) (by first | exact Nat.le_of_ble_eq_true rfl | (show _ ≤ 601024; omega) | (show _ ≤ 7293034; omega)) (by first | exact Nat.le_of_ble_eq_true rfl | (show _ ≤ 601024; omega) | (show _ ≤ 7293034; omega)) (by first | exact Nat.le_of_ble_eq_true rfl | (show _ ≤ 601024; omega) | (show _ ≤ 7293034; omega)) (by first | exact Nat.le_of_ble_eq_true rfl | (show _ ≤ 601024; omega) | (show _ ≤ 7293034; omega)) dL_law_1823 (sX8_setPinned hM) (fun r h7 hq => ?_) (fun x h9 hq => hq.elim)
      obtain ⟨z6, rfl, hM⟩ := hq
      refine zV_istore O dL_law_1826 (by first | exact Nat.le_of_ble_eq_true rfl | (show _ ≤ 601024; omega) | (show _ ≤ 7293034; omega)) rfl ?_
      refine zV_aload_n O dL_law_1828 rfl rfl ?_
      refine zV_callV (as := []) (st := []) O zc_X8_thrown (Or.inl zl_RL_100) zi_1295 zi_1296 zt_185 rfl rfl (by decide) (by first | exact Nat.le_of_ble_eq_true rfl | (show _ ≤ 601024; omega) | (show _ ≤ 7293034; omega)) rfl rfl (by first | exact Nat.le_of_ble_eq_true rfl | (show _ ≤ 601024; omega) | (show _ ≤ 7293034; omega)) (by first | exact Nat.le_of_ble_eq_true rfl | (show _ ≤ 601024; omega) | (show _ ≤ 7293034; omega)) (by first | exact Nat.le_of_ble_eq_true rfl | (show _ ≤ 601024; omega) | (show _ ≤ 7293034; omega)) (by first | exact Nat.le_of_ble_eq_true rfl | (show _ ≤ 601024; omega) | (show _ ≤ 7293034; omega)) (by first | exact Nat.le_of_ble_eq_true rfl | (show _ ≤ 601024; omega) | (show _ ≤ 7293034; omega)) (by first | exact Nat.le_of_ble_eq_true rfl | (show _ ≤ 601024; omega) | (show _ ≤ 7293034; omega)) dL_law_1829 (sX8_thrown hM) (fun r h9 hq => ?_) (fun x h9 hq => hq.elim)
      obtain ⟨rfl, z8, rfl, hM⟩ := hq
      refine zV_iload O dL_law_1832 rfl ?_
      refine zV_icmp_eq (tgt := 1839) O dL_law_1834 (by decide) (fun hc => ?_) (fun hc => ?_)
      · replace hM := hM.1 hc
        refine zV_iload O dL_law_1839 rfl ?_
        refine zV_if_ne (tgt := 1856) O dL_law_1841 (by decide) (fun hc => ?_) (fun hc => ?_)
        · replace hM := hM.1 hc
          refine zV_goto (tgt := 2046) O dL_law_1856 (by decide) ?_
          refine zV_sub (ls2 := [some (aA (b + 1)), some (aR 169), some (aR 185), some (aR 197), some (aI v4), none, none, none, none]) ⟨rfl, rfl, rfl, rfl, rfl, trivial⟩ ?_
          exact hK _ _ _ _ (by omega) (by omega) hM
        · replace hM := hM.2 hc
          refine zV_aload_n O dL_law_1844 rfl rfl ?_
          refine zV_iconst (z := 0) O ⟨by omega, by omega⟩ dL_law_1845 ?_
          obtain ⟨hc, hM⟩ := hM
          refine zV_lald O zt_197 (by decide) hc dL_law_1846 ?_
          refine zV_iload O dL_law_1847 rfl ?_
          refine zV_i2l O dL_law_1849 ?_
          refine zV_lcmp O dL_law_1850 ?_
          refine zV_if_eq (tgt := 1856) O dL_law_1851 (by decide) (fun hc => ?_) (fun hc => ?_)
          · replace hM := hM.1 hc
            refine zV_goto (tgt := 2046) O dL_law_1856 (by decide) ?_
            refine zV_sub (ls2 := [some (aA (b + 1)), some (aR 169), some (aR 185), some (aR 197), some (aI v4), none, none, none, none]) ⟨rfl, rfl, rfl, rfl, rfl, trivial⟩ ?_
            exact hK _ _ _ _ (by omega) (by omega) hM
          · replace hM := hM.2 hc
            refine zV_iconst (z := 0) O ⟨by omega, by omega⟩ dL_law_1854 ?_
            exact zV_zret O rfl (Or.inl rfl) ⟨_, rfl, (Or.inl rfl), hM⟩ (by first | exact Nat.le_of_ble_eq_true rfl | (show _ ≤ 601024; omega) | (show _ ≤ 7293034; omega)) (by first | exact Nat.le_of_ble_eq_true rfl | (show _ ≤ 601024; omega) | (show _ ≤ 7293034; omega)) dL_law_1855
      · replace hM := hM.2 hc
        refine zV_iconst (z := 0) O ⟨by omega, by omega⟩ dL_law_1837 ?_
        exact zV_zret O rfl (Or.inl rfl) ⟨_, rfl, (Or.inl rfl), hM⟩ (by first | exact Nat.le_of_ble_eq_true rfl | (show _ ≤ 601024; omega) | (show _ ≤ 7293034; omega)) (by first | exact Nat.le_of_ble_eq_true rfl | (show _ ≤ 601024; omega) | (show _ ≤ 7293034; omega)) dL_law_1838
  · replace hM := hM.2 hc
    refine zV_iconst (z := 1) O ⟨by omega, by omega⟩ dL_law_1791 ?_
    refine zV_goto (tgt := 1796) O dL_law_1792 (by decide) ?_
    refine zV_aload_n O dL_law_1796 rfl rfl ?_
    refine zV_callSH (as := [aR 169, aI (sc (v4 + 1)), aI 1, aR 197]) (st := []) O zch_L_setPinned.1 zch_L_setPinned.2.1 zch_L_setPinned.2.2.1 zch_L_setPinned.2.2.2 zl_RL_215 zi_1173 (by first | exact Nat.le_of_ble_eq_true rfl | (show _ ≤ 601024; omega) | (show _ ≤ 7293034; omega)) rfl rfl (by first | exact Nat.le_of_ble_eq_true rfl | (show _ ≤ 601024; omega) | (show _ ≤ 7293034; omega)) (by first | exact Nat.le_of_ble_eq_true rfl | (show _ ≤ 601024; omega) | (show _ ≤ 7293034; omega)) (by first | exact Nat.le_of_ble_eq_true rfl | (show _ ≤ 601024; omega) | (show _ ≤ 7293034; omega)) (by first | exact Nat.le_of_ble_eq_true rfl | (show _ ≤ 601024; omega) | (show _ ≤ 7293034; omega)) (by first | exact Nat.le_of_ble_eq_true rfl | (show _ ≤ 601024; omega) | (show _ ≤ 7293034; omega)) (by first | exact Nat.le_of_ble_eq_true rfl | (show _ ≤ 601024; omega) | (show _ ≤ 7293034; omega)) dL_law_1797 (sL_setPinned hM) (fun r h10 hq => ?_) (fun x h9 hq => hq.elim)
    obtain ⟨z9, rfl, hM⟩ := hq
    refine zV_istore O dL_law_1800 (by first | exact Nat.le_of_ble_eq_true rfl | (show _ ≤ 601024; omega) | (show _ ≤ 7293034; omega)) rfl ?_
    refine zV_aload_n O dL_law_1802 rfl rfl ?_
    refine zV_aload_n O dL_law_1803 rfl rfl ?_
    refine zV_iload O dL_law_1804 rfl ?_
    refine zV_iconst (z := 1) O ⟨by omega, by omega⟩ dL_law_1806 ?_
    obtain ⟨hc, hM⟩ := hM
    refine zV_iadd O dL_law_1807 hc ?_
    obtain ⟨hc, hM⟩ := hM
    refine zV_sld O hS hc dL_law_1808 ?_
    refine zV_aload_n O dL_law_1809 rfl rfl ?_
    refine zV_iload O dL_law_1810 rfl ?_
    refine zV_iconst (z := 2) O ⟨by omega, by omega⟩ dL_law_1812 ?_
    obtain ⟨hc, hM⟩ := hM
    refine zV_iadd O dL_law_1813 hc ?_
    obtain ⟨hc, hM⟩ := hM
    refine zV_sld O hS hc dL_law_1814 ?_
    refine zV_if_eq (tgt := 1822) O dL_law_1815 (by decide) (fun hc => ?_) (fun hc => ?_)
    · replace hM := hM.1 hc
      refine zV_iconst (z := 0) O ⟨by omega, by omega⟩ dL_law_1822 ?_
      refine zV_callV (as := [aI (sc (v4 + 1)), aI 0]) (st := []) O zc_X8_setPinned (Or.inl zl_RL_218) zi_1818 zi_1819 zt_185 rfl rfl (by decide) (by first | exact Nat.le_of_ble_eq_true rfl | (show _ ≤ 601024; omega) | (show _ ≤ 7293034; omega)) rfl rfl (by first | exact Nat.le_of_ble_eq_true rfl | (show _ ≤ 601024; omega) | (show _ ≤ 7293034; omega)) (by first | exact Nat.le_of_ble_eq_true rfl | (show _ ≤ 601024; omega) | (show _ ≤ 7293034; omega)) (by first | exact Nat.le_of_ble_eq_true rfl | (show _ ≤ 601024; omega) | (show _ ≤ 7293034; omega)) (by first | exact Nat.le_of_ble_eq_true rfl | (show _ ≤ 601024; omega) | (show _ ≤ 7293034; omega)) (by first | exact Nat.le_of_ble_eq_true rfl | (show _ ≤ 601024; omega) | (show _ ≤ 7293034; omega)) (by first | exact Nat.le_of_ble_eq_true rfl | (show _ ≤ 601024; omega) | (show _ ≤ 7293034; omega)) dL_law_1823 (sX8_setPinned hM) (fun r h12 hq => ?_) (fun x h9 hq => hq.elim)
      obtain ⟨z11, rfl, hM⟩ := hq
      refine zV_istore O dL_law_1826 (by first | exact Nat.le_of_ble_eq_true rfl | (show _ ≤ 601024; omega) | (show _ ≤ 7293034; omega)) rfl ?_
      refine zV_aload_n O dL_law_1828 rfl rfl ?_
      refine zV_callV (as := []) (st := []) O zc_X8_thrown (Or.inl zl_RL_100) zi_1295 zi_1296 zt_185 rfl rfl (by decide) (by first | exact Nat.le_of_ble_eq_true rfl | (show _ ≤ 601024; omega) | (show _ ≤ 7293034; omega)) rfl rfl (by first | exact Nat.le_of_ble_eq_true rfl | (show _ ≤ 601024; omega) | (show _ ≤ 7293034; omega)) (by first | exact Nat.le_of_ble_eq_true rfl | (show _ ≤ 601024; omega) | (show _ ≤ 7293034; omega)) (by first | exact Nat.le_of_ble_eq_true rfl | (show _ ≤ 601024; omega) | (show _ ≤ 7293034; omega)) (by first | exact Nat.le_of_ble_eq_true rfl | (show _ ≤ 601024; omega) | (show _ ≤ 7293034; omega)) (by first | exact Nat.le_of_ble_eq_true rfl | (show _ ≤ 601024; omega) | (show _ ≤ 7293034; omega)) (by first | exact Nat.le_of_ble_eq_true rfl | (show _ ≤ 601024; omega) | (show _ ≤ 7293034; omega)) dL_law_1829 (sX8_thrown hM) (fun r h9 hq => ?_) (fun x h9 hq => hq.elim)
      obtain ⟨rfl, z13, rfl, hM⟩ := hq
      refine zV_iload O dL_law_1832 rfl ?_
      refine zV_icmp_eq (tgt := 1839) O dL_law_1834 (by decide) (fun hc => ?_) (fun hc => ?_)
      · replace hM := hM.1 hc
        refine zV_iload O dL_law_1839 rfl ?_
        refine zV_if_ne (tgt := 1856) O dL_law_1841 (by decide) (fun hc => ?_) (fun hc => ?_)
        · replace hM := hM.1 hc
          refine zV_goto (tgt := 2046) O dL_law_1856 (by decide) ?_
          refine zV_sub (ls2 := [some (aA (b + 1)), some (aR 169), some (aR 185), some (aR 197), some (aI v4), none, none, none, none]) ⟨rfl, rfl, rfl, rfl, rfl, trivial⟩ ?_
          exact hK _ _ _ _ (by omega) (by omega) hM
        · replace hM := hM.2 hc
          refine zV_aload_n O dL_law_1844 rfl rfl ?_
          refine zV_iconst (z := 0) O ⟨by omega, by omega⟩ dL_law_1845 ?_
          obtain ⟨hc, hM⟩ := hM
          refine zV_lald O zt_197 (by decide) hc dL_law_1846 ?_
          refine zV_iload O dL_law_1847 rfl ?_
          refine zV_i2l O dL_law_1849 ?_
          refine zV_lcmp O dL_law_1850 ?_
          refine zV_if_eq (tgt := 1856) O dL_law_1851 (by decide) (fun hc => ?_) (fun hc => ?_)
          · replace hM := hM.1 hc
            refine zV_goto (tgt := 2046) O dL_law_1856 (by decide) ?_
            refine zV_sub (ls2 := [some (aA (b + 1)), some (aR 169), some (aR 185), some (aR 197), some (aI v4), none, none, none, none]) ⟨rfl, rfl, rfl, rfl, rfl, trivial⟩ ?_
            exact hK _ _ _ _ (by omega) (by omega) hM
          · replace hM := hM.2 hc
            refine zV_iconst (z := 0) O ⟨by omega, by omega⟩ dL_law_1854 ?_
            exact zV_zret O rfl (Or.inl rfl) ⟨_, rfl, (Or.inl rfl), hM⟩ (by first | exact Nat.le_of_ble_eq_true rfl | (show _ ≤ 601024; omega) | (show _ ≤ 7293034; omega)) (by first | exact Nat.le_of_ble_eq_true rfl | (show _ ≤ 601024; omega) | (show _ ≤ 7293034; omega)) dL_law_1855
      · replace hM := hM.2 hc
        refine zV_iconst (z := 0) O ⟨by omega, by omega⟩ dL_law_1837 ?_
        exact zV_zret O rfl (Or.inl rfl) ⟨_, rfl, (Or.inl rfl), hM⟩ (by first | exact Nat.le_of_ble_eq_true rfl | (show _ ≤ 601024; omega) | (show _ ≤ 7293034; omega)) (by first | exact Nat.le_of_ble_eq_true rfl | (show _ ≤ 601024; omega) | (show _ ≤ 7293034; omega)) dL_law_1838
    · replace hM := hM.2 hc
      refine zV_iconst (z := 1) O ⟨by omega, by omega⟩ dL_law_1818 ?_
      refine zV_goto (tgt := 1823) O dL_law_1819 (by decide) ?_
      refine zV_callV (as := [aI (sc (v4 + 1)), aI 1]) (st := []) O zc_X8_setPinned (Or.inl zl_RL_218) zi_1818 zi_1819 zt_185 rfl rfl (by decide) (by first | exact Nat.le_of_ble_eq_true rfl | (show _ ≤ 601024; omega) | (show _ ≤ 7293034; omega)) rfl rfl (by first | exact Nat.le_of_ble_eq_true rfl | (show _ ≤ 601024; omega) | (show _ ≤ 7293034; omega)) (by first | exact Nat.le_of_ble_eq_true rfl | (show _ ≤ 601024; omega) | (show _ ≤ 7293034; omega)) (by first | exact Nat.le_of_ble_eq_true rfl | (show _ ≤ 601024; omega) | (show _ ≤ 7293034; omega)) (by first | exact Nat.le_of_ble_eq_true rfl | (show _ ≤ 601024; omega) | (show _ ≤ 7293034; omega)) (by first | exact Nat.le_of_ble_eq_true rfl | (show _ ≤ 601024; omega) | (show _ ≤ 7293034; omega)) (by first | exact Nat.le_of_ble_eq_true rfl | (show _ ≤ 601024; omega) | (show _ ≤ 7293034; omega)) dL_law_1823 (sX8_setPinned hM) (fun r h15 hq => ?_) (fun x h9 hq => hq.elim)
      obtain ⟨z14, rfl, hM⟩ := hq
      refine zV_istore O dL_law_1826 (by first | exact Nat.le_of_ble_eq_true rfl | (show _ ≤ 601024; omega) | (show _ ≤ 7293034; omega)) rfl ?_
      refine zV_aload_n O dL_law_1828 rfl rfl ?_
      refine zV_callV (as := []) (st := []) O zc_X8_thrown (Or.inl zl_RL_100) zi_1295 zi_1296 zt_185 rfl rfl (by decide) (by first | exact Nat.le_of_ble_eq_true rfl | (show _ ≤ 601024; omega) | (show _ ≤ 7293034; omega)) rfl rfl (by first | exact Nat.le_of_ble_eq_true rfl | (show _ ≤ 601024; omega) | (show _ ≤ 7293034; omega)) (by first | exact Nat.le_of_ble_eq_true rfl | (show _ ≤ 601024; omega) | (show _ ≤ 7293034; omega)) (by first | exact Nat.le_of_ble_eq_true rfl | (show _ ≤ 601024; omega) | (show _ ≤ 7293034; omega)) (by first | exact Nat.le_of_ble_eq_true rfl | (show _ ≤ 601024; omega) | (show _ ≤ 7293034; omega)) (by first | exact Nat.le_of_ble_eq_true rfl | (show _ ≤ 601024; omega) | (show _ ≤ 7293034; omega)) (by first | exact Nat.le_of_ble_eq_true rfl | (show _ ≤ 601024; omega) | (show _ ≤ 7293034; omega)) dL_law_1829 (sX8_thrown hM) (fun r h9 hq => ?_) (fun x h9 hq => hq.elim)
      obtain ⟨rfl, z16, rfl, hM⟩ := hq
      refine zV_iload O dL_law_1832 rfl ?_
      refine zV_icmp_eq (tgt := 1839) O dL_law_1834 (by decide) (fun hc => ?_) (fun hc => ?_)
      · replace hM := hM.1 hc
        refine zV_iload O dL_law_1839 rfl ?_
        refine zV_if_ne (tgt := 1856) O dL_law_1841 (by decide) (fun hc => ?_) (fun hc => ?_)
        · replace hM := hM.1 hc
          refine zV_goto (tgt := 2046) O dL_law_1856 (by decide) ?_
          refine zV_sub (ls2 := [some (aA (b + 1)), some (aR 169), some (aR 185), some (aR 197), some (aI v4), none, none, none, none]) ⟨rfl, rfl, rfl, rfl, rfl, trivial⟩ ?_
          exact hK _ _ _ _ (by omega) (by omega) hM
        · replace hM := hM.2 hc
          refine zV_aload_n O dL_law_1844 rfl rfl ?_
          refine zV_iconst (z := 0) O ⟨by omega, by omega⟩ dL_law_1845 ?_
          obtain ⟨hc, hM⟩ := hM
          refine zV_lald O zt_197 (by decide) hc dL_law_1846 ?_
          refine zV_iload O dL_law_1847 rfl ?_
          refine zV_i2l O dL_law_1849 ?_
          refine zV_lcmp O dL_law_1850 ?_
          refine zV_if_eq (tgt := 1856) O dL_law_1851 (by decide) (fun hc => ?_) (fun hc => ?_)
          · replace hM := hM.1 hc
            refine zV_goto (tgt := 2046) O dL_law_1856 (by decide) ?_
            refine zV_sub (ls2 := [some (aA (b + 1)), some (aR 169), some (aR 185), some (aR 197), some (aI v4), none, none, none, none]) ⟨rfl, rfl, rfl, rfl, rfl, trivial⟩ ?_
            exact hK _ _ _ _ (by omega) (by omega) hM
          · replace hM := hM.2 hc
            refine zV_iconst (z := 0) O ⟨by omega, by omega⟩ dL_law_1854 ?_
            exact zV_zret O rfl (Or.inl rfl) ⟨_, rfl, (Or.inl rfl), hM⟩ (by first | exact Nat.le_of_ble_eq_true rfl | (show _ ≤ 601024; omega) | (show _ ≤ 7293034; omega)) (by first | exact Nat.le_of_ble_eq_true rfl | (show _ ≤ 601024; omega) | (show _ ≤ 7293034; omega)) dL_law_1855
      · replace hM := hM.2 hc
        refine zV_iconst (z := 0) O ⟨by omega, by omega⟩ dL_law_1837 ?_
        exact zV_zret O rfl (Or.inl rfl) ⟨_, rfl, (Or.inl rfl), hM⟩ (by first | exact Nat.le_of_ble_eq_true rfl | (show _ ≤ 601024; omega) | (show _ ≤ 7293034; omega)) (by first | exact Nat.le_of_ble_eq_true rfl | (show _ ≤ 601024; omega) | (show _ ≤ 7293034; omega)) dL_law_1838
def mW_34 (sc : Int → Int) (L : Int) (Q : Int → Hp → Prop) (K : Int → Hp → Prop) (v4 : Int) (h : Hp) : Prop := (zr (v4 + 1) ∧ (((0 : Int) ≤ (v4 + 1) ∧ (v4 + 1) < L) ∧ (mL_format (sc (v4 + 1)) h (fun z1 h2 => (zr (v4 + 1) ∧ (((0 : Int) ≤ (v4 + 1) ∧ (v4 + 1) < L) ∧ (mX8_format (sc (v4 + 1)) h2 (fun z3 h4 => (mX8_thrown h4 (fun z5 => ((z5 = z1 → ((¬ z1 = 0 → (K v4 h4)) ∧ (z1 = 0 → (((0 : Int) ≤ 0 ∧ (0 : Int) < 1) ∧ (((zlcmp (rd h4 197 0) z3) = 0 → (K v4 h4)) ∧ (¬ (zlcmp (rd h4 197 0) z3) = 0 → (Q 0 h4))))))) ∧ (¬ z5 = z1 → (Q 0 h4)))))))))))))
set_option maxHeartbeats 4000000 in
set_option maxRecDepth 100000 in
theorem sW_34 {l0 : Launch} {a : ZC} {b : Nat} {L : Int} {sc : Int → Int} {Q : Int → Hp → Prop} {K : Int → Hp → Prop} {k n : Nat} {v4 : Int} {h : Hp} (O : zOk l0 a cL_law RL 9 (some .boolean) 198 []) (hS : zScr a b L sc) (hk : k ≤ 600000) (hn : n ≤ 7200000) (hK : ∀ (k2 n2 : Nat) (v4 : Int) (h : Hp), k2 ≤ k + 1 → n2 ≤ n + 6 → K v4 h → zV a (2048, 601024, 7293034, (qZ Q), xN) k2 n2 2046 [some (aA (b + 1)), some (aR 169), some (aR 185), some (aR 197), some (aI v4), none, none, none, none] [] h) (hM : mW_34 sc L Q K v4 h) : zV a (2048, 601024, 7293034, (qZ Q), xN) k n 1859 [some (aA (b + 1)), some (aR 169), some (aR 185), some (aR 197), some (aI v4), none, none, none, none] [] h := by
  unfold mW_34 at hM
  refine zV_aload_n O dL_law_1859 rfl rfl ?_
  refine zV_aload_n O dL_law_1860 rfl rfl ?_
  refine zV_iload O dL_law_1861 rfl ?_
  refine zV_iconst (z := 1) O ⟨by omega, by omega⟩ dL_law_1863 ?_
  obtain ⟨hc, hM⟩ := hM
  refine zV_iadd O dL_law_1864 hc ?_
  obtain ⟨hc, hM⟩ := hM
  refine zV_sld O hS hc dL_law_1865 ?_
  refine zV_aload_n O dL_law_1866 rfl rfl ?_
  refine zV_callSH (as := [aR 169, aI (sc (v4 + 1)), aR 197]) (st := []) O zch_L_format.1 zch_L_format.2.1 zch_L_format.2.2.1 zch_L_format.2.2.2 zl_RL_219 zi_1180 (by first | exact Nat.le_of_ble_eq_true rfl | (show _ ≤ 601024; omega) | (show _ ≤ 7293034; omega)) rfl rfl (by first | exact Nat.le_of_ble_eq_true rfl | (show _ ≤ 601024; omega) | (show _ ≤ 7293034; omega)) (by first | exact Nat.le_of_ble_eq_true rfl | (show _ ≤ 601024; omega) | (show _ ≤ 7293034; omega)) (by first | exact Nat.le_of_ble_eq_true rfl | (show _ ≤ 601024; omega) | (show _ ≤ 7293034; omega)) (by first | exact Nat.le_of_ble_eq_true rfl | (show _ ≤ 601024; omega) | (show _ ≤ 7293034; omega)) (by first | exact Nat.le_of_ble_eq_true rfl | (show _ ≤ 601024; omega) | (show _ ≤ 7293034; omega)) (by first | exact Nat.le_of_ble_eq_true rfl | (show _ ≤ 601024; omega) | (show _ ≤ 7293034; omega)) dL_law_1867 (sL_format hM) (fun r h2 hq => ?_) (fun x h9 hq => hq.elim)
  obtain ⟨z1, rfl, hM⟩ := hq
  refine zV_istore O dL_law_1870 (by first | exact Nat.le_of_ble_eq_true rfl | (show _ ≤ 601024; omega) | (show _ ≤ 7293034; omega)) rfl ?_
  refine zV_aload_n O dL_law_1872 rfl rfl ?_
  refine zV_aload_n O dL_law_1873 rfl rfl ?_
  refine zV_iload O dL_law_1874 rfl ?_
  refine zV_iconst (z := 1) O ⟨by omega, by omega⟩ dL_law_1876 ?_
  obtain ⟨hc, hM⟩ := hM
  refine zV_iadd O dL_law_1877 hc ?_
  obtain ⟨hc, hM⟩ := hM
  refine zV_sld O hS hc dL_law_1878 ?_
  refine zV_callV (as := [aI (sc (v4 + 1))]) (st := []) O zc_X8_format (Or.inl zl_RL_221) zi_1838 zi_1839 zt_185 rfl rfl (by decide) (by first | exact Nat.le_of_ble_eq_true rfl | (show _ ≤ 601024; omega) | (show _ ≤ 7293034; omega)) rfl rfl (by first | exact Nat.le_of_ble_eq_true rfl | (show _ ≤ 601024; omega) | (show _ ≤ 7293034; omega)) (by first | exact Nat.le_of_ble_eq_true rfl | (show _ ≤ 601024; omega) | (show _ ≤ 7293034; omega)) (by first | exact Nat.le_of_ble_eq_true rfl | (show _ ≤ 601024; omega) | (show _ ≤ 7293034; omega)) (by first | exact Nat.le_of_ble_eq_true rfl | (show _ ≤ 601024; omega) | (show _ ≤ 7293034; omega)) (by first | exact Nat.le_of_ble_eq_true rfl | (show _ ≤ 601024; omega) | (show _ ≤ 7293034; omega)) (by first | exact Nat.le_of_ble_eq_true rfl | (show _ ≤ 601024; omega) | (show _ ≤ 7293034; omega)) dL_law_1879 (sX8_format hM) (fun r h4 hq => ?_) (fun x h9 hq => hq.elim)
  obtain ⟨z3, rfl, hM⟩ := hq
  refine zV_istore O dL_law_1882 (by first | exact Nat.le_of_ble_eq_true rfl | (show _ ≤ 601024; omega) | (show _ ≤ 7293034; omega)) rfl ?_
  refine zV_aload_n O dL_law_1884 rfl rfl ?_
  refine zV_callV (as := []) (st := []) O zc_X8_thrown (Or.inl zl_RL_100) zi_1295 zi_1296 zt_185 rfl rfl (by decide) (by first | exact Nat.le_of_ble_eq_true rfl | (show _ ≤ 601024; omega) | (show _ ≤ 7293034; omega)) rfl rfl (by first | exact Nat.le_of_ble_eq_true rfl | (show _ ≤ 601024; omega) | (show _ ≤ 7293034; omega)) (by first | exact Nat.le_of_ble_eq_true rfl | (show _ ≤ 601024; omega) | (show _ ≤ 7293034; omega)) (by first | exact Nat.le_of_ble_eq_true rfl | (show _ ≤ 601024; omega) | (show _ ≤ 7293034; omega)) (by first | exact Nat.le_of_ble_eq_true rfl | (show _ ≤ 601024; omega) | (show _ ≤ 7293034; omega)) (by first | exact Nat.le_of_ble_eq_true rfl | (show _ ≤ 601024; omega) | (show _ ≤ 7293034; omega)) (by first | exact Nat.le_of_ble_eq_true rfl | (show _ ≤ 601024; omega) | (show _ ≤ 7293034; omega)) dL_law_1885 (sX8_thrown hM) (fun r h9 hq => ?_) (fun x h9 hq => hq.elim)
  obtain ⟨rfl, z5, rfl, hM⟩ := hq
  refine zV_iload O dL_law_1888 rfl ?_
  refine zV_icmp_eq (tgt := 1895) O dL_law_1890 (by decide) (fun hc => ?_) (fun hc => ?_)
  · replace hM := hM.1 hc
    refine zV_iload O dL_law_1895 rfl ?_
    refine zV_if_ne (tgt := 1912) O dL_law_1897 (by decide) (fun hc => ?_) (fun hc => ?_)
    · replace hM := hM.1 hc
      refine zV_goto (tgt := 2046) O dL_law_1912 (by decide) ?_
      refine zV_sub (ls2 := [some (aA (b + 1)), some (aR 169), some (aR 185), some (aR 197), some (aI v4), none, none, none, none]) ⟨rfl, rfl, rfl, rfl, rfl, trivial⟩ ?_
      exact hK _ _ _ _ (by omega) (by omega) hM
    · replace hM := hM.2 hc
      refine zV_aload_n O dL_law_1900 rfl rfl ?_
      refine zV_iconst (z := 0) O ⟨by omega, by omega⟩ dL_law_1901 ?_
      obtain ⟨hc, hM⟩ := hM
      refine zV_lald O zt_197 (by decide) hc dL_law_1902 ?_
      refine zV_iload O dL_law_1903 rfl ?_
      refine zV_i2l O dL_law_1905 ?_
      refine zV_lcmp O dL_law_1906 ?_
      refine zV_if_eq (tgt := 1912) O dL_law_1907 (by decide) (fun hc => ?_) (fun hc => ?_)
      · replace hM := hM.1 hc
        refine zV_goto (tgt := 2046) O dL_law_1912 (by decide) ?_
        refine zV_sub (ls2 := [some (aA (b + 1)), some (aR 169), some (aR 185), some (aR 197), some (aI v4), none, none, none, none]) ⟨rfl, rfl, rfl, rfl, rfl, trivial⟩ ?_
        exact hK _ _ _ _ (by omega) (by omega) hM
      · replace hM := hM.2 hc
        refine zV_iconst (z := 0) O ⟨by omega, by omega⟩ dL_law_1910 ?_
        exact zV_zret O rfl (Or.inl rfl) ⟨_, rfl, (Or.inl rfl), hM⟩ (by first | exact Nat.le_of_ble_eq_true rfl | (show _ ≤ 601024; omega) | (show _ ≤ 7293034; omega)) (by first | exact Nat.le_of_ble_eq_true rfl | (show _ ≤ 601024; omega) | (show _ ≤ 7293034; omega)) dL_law_1911
  · replace hM := hM.2 hc
    refine zV_iconst (z := 0) O ⟨by omega, by omega⟩ dL_law_1893 ?_
    exact zV_zret O rfl (Or.inl rfl) ⟨_, rfl, (Or.inl rfl), hM⟩ (by first | exact Nat.le_of_ble_eq_true rfl | (show _ ≤ 601024; omega) | (show _ ≤ 7293034; omega)) (by first | exact Nat.le_of_ble_eq_true rfl | (show _ ≤ 601024; omega) | (show _ ≤ 7293034; omega)) dL_law_1894
def mW_35 (sc : Int → Int) (L : Int) (Q : Int → Hp → Prop) (K : Int → Hp → Prop) (v4 : Int) (h : Hp) : Prop := (zr (v4 + 1) ∧ (((0 : Int) ≤ (v4 + 1) ∧ (v4 + 1) < L) ∧ (mX7_formattedByte (sc (v4 + 1)) h (fun z1 => (zr (v4 + 1) ∧ (((0 : Int) ≤ (v4 + 1) ∧ (v4 + 1) < L) ∧ (mX8_formattedByte (sc (v4 + 1)) h (fun z2 h3 => ((z1 = z2 → (K v4 h3)) ∧ (¬ z1 = z2 → (Q 0 h3)))))))))))
set_option maxHeartbeats 4000000 in
set_option maxRecDepth 100000 in
theorem sW_35 {l0 : Launch} {a : ZC} {b : Nat} {L : Int} {sc : Int → Int} {Q : Int → Hp → Prop} {K : Int → Hp → Prop} {k n : Nat} {v4 : Int} {h : Hp} (O : zOk l0 a cL_law RL 9 (some .boolean) 198 []) (hS : zScr a b L sc) (hk : k ≤ 600000) (hn : n ≤ 7200000) (hK : ∀ (k2 n2 : Nat) (v4 : Int) (h : Hp), k2 ≤ k + 1 → n2 ≤ n + 6 → K v4 h → zV a (2048, 601024, 7293034, (qZ Q), xN) k2 n2 2046 [some (aA (b + 1)), some (aR 169), some (aR 185), some (aR 197), some (aI v4), none, none, none, none] [] h) (hM : mW_35 sc L Q K v4 h) : zV a (2048, 601024, 7293034, (qZ Q), xN) k n 1915 [some (aA (b + 1)), some (aR 169), some (aR 185), some (aR 197), some (aI v4), none, none, none, none] [] h := by
  unfold mW_35 at hM
  refine zV_aload_n O dL_law_1915 rfl rfl ?_
  refine zV_aload_n O dL_law_1916 rfl rfl ?_
  refine zV_iload O dL_law_1917 rfl ?_
  refine zV_iconst (z := 1) O ⟨by omega, by omega⟩ dL_law_1919 ?_
  obtain ⟨hc, hM⟩ := hM
  refine zV_iadd O dL_law_1920 hc ?_
  obtain ⟨hc, hM⟩ := hM
  refine zV_sld O hS hc dL_law_1921 ?_
  refine zV_callV (as := [aI (sc (v4 + 1))]) (st := []) O zc_X7_formattedByte (Or.inl zl_RL_222) zi_700 zi_701 zt_169 rfl rfl (by decide) (by first | exact Nat.le_of_ble_eq_true rfl | (show _ ≤ 601024; omega) | (show _ ≤ 7293034; omega)) rfl rfl (by first | exact Nat.le_of_ble_eq_true rfl | (show _ ≤ 601024; omega) | (show _ ≤ 7293034; omega)) (by first | exact Nat.le_of_ble_eq_true rfl | (show _ ≤ 601024; omega) | (show _ ≤ 7293034; omega)) (by first | exact Nat.le_of_ble_eq_true rfl | (show _ ≤ 601024; omega) | (show _ ≤ 7293034; omega)) (by first | exact Nat.le_of_ble_eq_true rfl | (show _ ≤ 601024; omega) | (show _ ≤ 7293034; omega)) (by first | exact Nat.le_of_ble_eq_true rfl | (show _ ≤ 601024; omega) | (show _ ≤ 7293034; omega)) (by first | exact Nat.le_of_ble_eq_true rfl | (show _ ≤ 601024; omega) | (show _ ≤ 7293034; omega)) dL_law_1922 (sX7_formattedByte hM) (fun r h9 hq => ?_) (fun x h9 hq => hq.elim)
  obtain ⟨rfl, z1, rfl, hM⟩ := hq
  refine zV_aload_n O dL_law_1925 rfl rfl ?_
  refine zV_aload_n O dL_law_1926 rfl rfl ?_
  refine zV_iload O dL_law_1927 rfl ?_
  refine zV_iconst (z := 1) O ⟨by omega, by omega⟩ dL_law_1929 ?_
  obtain ⟨hc, hM⟩ := hM
  refine zV_iadd O dL_law_1930 hc ?_
  obtain ⟨hc, hM⟩ := hM
  refine zV_sld O hS hc dL_law_1931 ?_
  refine zV_callV (as := [aI (sc (v4 + 1))]) (st := [aI z1]) O zc_X8_formattedByte (Or.inl zl_RL_225) zi_1850 zi_1851 zt_185 rfl rfl (by decide) (by first | exact Nat.le_of_ble_eq_true rfl | (show _ ≤ 601024; omega) | (show _ ≤ 7293034; omega)) rfl rfl (by first | exact Nat.le_of_ble_eq_true rfl | (show _ ≤ 601024; omega) | (show _ ≤ 7293034; omega)) (by first | exact Nat.le_of_ble_eq_true rfl | (show _ ≤ 601024; omega) | (show _ ≤ 7293034; omega)) (by first | exact Nat.le_of_ble_eq_true rfl | (show _ ≤ 601024; omega) | (show _ ≤ 7293034; omega)) (by first | exact Nat.le_of_ble_eq_true rfl | (show _ ≤ 601024; omega) | (show _ ≤ 7293034; omega)) (by first | exact Nat.le_of_ble_eq_true rfl | (show _ ≤ 601024; omega) | (show _ ≤ 7293034; omega)) (by first | exact Nat.le_of_ble_eq_true rfl | (show _ ≤ 601024; omega) | (show _ ≤ 7293034; omega)) dL_law_1932 (sX8_formattedByte hM) (fun r h3 hq => ?_) (fun x h9 hq => hq.elim)
  obtain ⟨z2, rfl, hM⟩ := hq
  refine zV_icmp_eq (tgt := 2046) O dL_law_1935 (by decide) (fun hc => ?_) (fun hc => ?_)
  · replace hM := hM.1 hc
    refine zV_sub (ls2 := [some (aA (b + 1)), some (aR 169), some (aR 185), some (aR 197), some (aI v4), none, none, none, none]) ⟨rfl, rfl, rfl, rfl, rfl, trivial⟩ ?_
    exact hK _ _ _ _ (by omega) (by omega) hM
  · replace hM := hM.2 hc
    refine zV_iconst (z := 0) O ⟨by omega, by omega⟩ dL_law_1938 ?_
    exact zV_zret O rfl (Or.inl rfl) ⟨_, rfl, (Or.inl rfl), hM⟩ (by first | exact Nat.le_of_ble_eq_true rfl | (show _ ≤ 601024; omega) | (show _ ≤ 7293034; omega)) (by first | exact Nat.le_of_ble_eq_true rfl | (show _ ≤ 601024; omega) | (show _ ≤ 7293034; omega)) dL_law_1939
def mW_36 (sc : Int → Int) (L : Int) (Q : Int → Hp → Prop) (K : Int → Hp → Prop) (v4 : Int) (h : Hp) : Prop := (mX7_undoCount h (fun z1 => (mX8_undoCount h (fun z2 h3 => ((z1 = z2 → (K v4 h3)) ∧ (¬ z1 = z2 → (Q 0 h3)))))))
set_option maxHeartbeats 4000000 in
set_option maxRecDepth 100000 in
theorem sW_36 {l0 : Launch} {a : ZC} {b : Nat} {L : Int} {sc : Int → Int} {Q : Int → Hp → Prop} {K : Int → Hp → Prop} {k n : Nat} {v4 : Int} {h : Hp} (O : zOk l0 a cL_law RL 9 (some .boolean) 198 []) (hS : zScr a b L sc) (hk : k ≤ 600000) (hn : n ≤ 7200000) (hK : ∀ (k2 n2 : Nat) (v4 : Int) (h : Hp), k2 ≤ k + 1 → n2 ≤ n + 6 → K v4 h → zV a (2048, 601024, 7293034, (qZ Q), xN) k2 n2 2046 [some (aA (b + 1)), some (aR 169), some (aR 185), some (aR 197), some (aI v4), none, none, none, none] [] h) (hM : mW_36 sc L Q K v4 h) : zV a (2048, 601024, 7293034, (qZ Q), xN) k n 1940 [some (aA (b + 1)), some (aR 169), some (aR 185), some (aR 197), some (aI v4), none, none, none, none] [] h := by
  unfold mW_36 at hM
  refine zV_aload_n O dL_law_1940 rfl rfl ?_
  refine zV_callV (as := []) (st := []) O zc_X7_undoCount (Or.inl zl_RL_226) zi_708 zi_709 zt_169 rfl rfl (by decide) (by first | exact Nat.le_of_ble_eq_true rfl | (show _ ≤ 601024; omega) | (show _ ≤ 7293034; omega)) rfl rfl (by first | exact Nat.le_of_ble_eq_true rfl | (show _ ≤ 601024; omega) | (show _ ≤ 7293034; omega)) (by first | exact Nat.le_of_ble_eq_true rfl | (show _ ≤ 601024; omega) | (show _ ≤ 7293034; omega)) (by first | exact Nat.le_of_ble_eq_true rfl | (show _ ≤ 601024; omega) | (show _ ≤ 7293034; omega)) (by first | exact Nat.le_of_ble_eq_true rfl | (show _ ≤ 601024; omega) | (show _ ≤ 7293034; omega)) (by first | exact Nat.le_of_ble_eq_true rfl | (show _ ≤ 601024; omega) | (show _ ≤ 7293034; omega)) (by first | exact Nat.le_of_ble_eq_true rfl | (show _ ≤ 601024; omega) | (show _ ≤ 7293034; omega)) dL_law_1941 (sX7_undoCount hM) (fun r h9 hq => ?_) (fun x h9 hq => hq.elim)
  obtain ⟨rfl, z1, rfl, hM⟩ := hq
  refine zV_aload_n O dL_law_1944 rfl rfl ?_
  refine zV_callV (as := []) (st := [aI z1]) O zc_X8_undoCount (Or.inl zl_RL_229) zi_1822 zi_1823 zt_185 rfl rfl (by decide) (by first | exact Nat.le_of_ble_eq_true rfl | (show _ ≤ 601024; omega) | (show _ ≤ 7293034; omega)) rfl rfl (by first | exact Nat.le_of_ble_eq_true rfl | (show _ ≤ 601024; omega) | (show _ ≤ 7293034; omega)) (by first | exact Nat.le_of_ble_eq_true rfl | (show _ ≤ 601024; omega) | (show _ ≤ 7293034; omega)) (by first | exact Nat.le_of_ble_eq_true rfl | (show _ ≤ 601024; omega) | (show _ ≤ 7293034; omega)) (by first | exact Nat.le_of_ble_eq_true rfl | (show _ ≤ 601024; omega) | (show _ ≤ 7293034; omega)) (by first | exact Nat.le_of_ble_eq_true rfl | (show _ ≤ 601024; omega) | (show _ ≤ 7293034; omega)) (by first | exact Nat.le_of_ble_eq_true rfl | (show _ ≤ 601024; omega) | (show _ ≤ 7293034; omega)) dL_law_1945 (sX8_undoCount hM) (fun r h3 hq => ?_) (fun x h9 hq => hq.elim)
  obtain ⟨z2, rfl, hM⟩ := hq
  refine zV_icmp_eq (tgt := 2046) O dL_law_1948 (by decide) (fun hc => ?_) (fun hc => ?_)
  · replace hM := hM.1 hc
    refine zV_sub (ls2 := [some (aA (b + 1)), some (aR 169), some (aR 185), some (aR 197), some (aI v4), none, none, none, none]) ⟨rfl, rfl, rfl, rfl, rfl, trivial⟩ ?_
    exact hK _ _ _ _ (by omega) (by omega) hM
  · replace hM := hM.2 hc
    refine zV_iconst (z := 0) O ⟨by omega, by omega⟩ dL_law_1951 ?_
    exact zV_zret O rfl (Or.inl rfl) ⟨_, rfl, (Or.inl rfl), hM⟩ (by first | exact Nat.le_of_ble_eq_true rfl | (show _ ≤ 601024; omega) | (show _ ≤ 7293034; omega)) (by first | exact Nat.le_of_ble_eq_true rfl | (show _ ≤ 601024; omega) | (show _ ≤ 7293034; omega)) dL_law_1952
def mW_37 (sc : Int → Int) (L : Int) (Q : Int → Hp → Prop) (K : Int → Hp → Prop) (v4 : Int) (h : Hp) : Prop := (mX7_undo h (fun z1 h2 => (mX8_undo h2 (fun z3 h4 => ((z1 = z3 → (K v4 h4)) ∧ (¬ z1 = z3 → (Q 0 h4)))))))
set_option maxHeartbeats 4000000 in
set_option maxRecDepth 100000 in
theorem sW_37 {l0 : Launch} {a : ZC} {b : Nat} {L : Int} {sc : Int → Int} {Q : Int → Hp → Prop} {K : Int → Hp → Prop} {k n : Nat} {v4 : Int} {h : Hp} (O : zOk l0 a cL_law RL 9 (some .boolean) 198 []) (hS : zScr a b L sc) (hk : k ≤ 600000) (hn : n ≤ 7200000) (hK : ∀ (k2 n2 : Nat) (v4 : Int) (h : Hp), k2 ≤ k + 1 → n2 ≤ n + 6 → K v4 h → zV a (2048, 601024, 7293034, (qZ Q), xN) k2 n2 2046 [some (aA (b + 1)), some (aR 169), some (aR 185), some (aR 197), some (aI v4), none, none, none, none] [] h) (hM : mW_37 sc L Q K v4 h) : zV a (2048, 601024, 7293034, (qZ Q), xN) k n 1953 [some (aA (b + 1)), some (aR 169), some (aR 185), some (aR 197), some (aI v4), none, none, none, none] [] h := by
  unfold mW_37 at hM
  refine zV_aload_n O dL_law_1953 rfl rfl ?_
  refine zV_callV (as := []) (st := []) O zc_X7_undo (Or.inl zl_RL_230) zi_712 zi_713 zt_169 rfl rfl (by decide) (by first | exact Nat.le_of_ble_eq_true rfl | (show _ ≤ 601024; omega) | (show _ ≤ 7293034; omega)) rfl rfl (by first | exact Nat.le_of_ble_eq_true rfl | (show _ ≤ 601024; omega) | (show _ ≤ 7293034; omega)) (by first | exact Nat.le_of_ble_eq_true rfl | (show _ ≤ 601024; omega) | (show _ ≤ 7293034; omega)) (by first | exact Nat.le_of_ble_eq_true rfl | (show _ ≤ 601024; omega) | (show _ ≤ 7293034; omega)) (by first | exact Nat.le_of_ble_eq_true rfl | (show _ ≤ 601024; omega) | (show _ ≤ 7293034; omega)) (by first | exact Nat.le_of_ble_eq_true rfl | (show _ ≤ 601024; omega) | (show _ ≤ 7293034; omega)) (by first | exact Nat.le_of_ble_eq_true rfl | (show _ ≤ 601024; omega) | (show _ ≤ 7293034; omega)) dL_law_1954 (sX7_undo hM) (fun r h2 hq => ?_) (fun x h9 hq => hq.elim)
  obtain ⟨z1, rfl, hM⟩ := hq
  refine zV_aload_n O dL_law_1957 rfl rfl ?_
  refine zV_callV (as := []) (st := [aI z1]) O zc_X8_undo (Or.inl zl_RL_233) zi_1826 zi_1827 zt_185 rfl rfl (by decide) (by first | exact Nat.le_of_ble_eq_true rfl | (show _ ≤ 601024; omega) | (show _ ≤ 7293034; omega)) rfl rfl (by first | exact Nat.le_of_ble_eq_true rfl | (show _ ≤ 601024; omega) | (show _ ≤ 7293034; omega)) (by first | exact Nat.le_of_ble_eq_true rfl | (show _ ≤ 601024; omega) | (show _ ≤ 7293034; omega)) (by first | exact Nat.le_of_ble_eq_true rfl | (show _ ≤ 601024; omega) | (show _ ≤ 7293034; omega)) (by first | exact Nat.le_of_ble_eq_true rfl | (show _ ≤ 601024; omega) | (show _ ≤ 7293034; omega)) (by first | exact Nat.le_of_ble_eq_true rfl | (show _ ≤ 601024; omega) | (show _ ≤ 7293034; omega)) (by first | exact Nat.le_of_ble_eq_true rfl | (show _ ≤ 601024; omega) | (show _ ≤ 7293034; omega)) dL_law_1958 (sX8_undo hM) (fun r h4 hq => ?_) (fun x h9 hq => hq.elim)
  obtain ⟨z3, rfl, hM⟩ := hq
  refine zV_icmp_eq (tgt := 2046) O dL_law_1961 (by decide) (fun hc => ?_) (fun hc => ?_)
  · replace hM := hM.1 hc
    refine zV_sub (ls2 := [some (aA (b + 1)), some (aR 169), some (aR 185), some (aR 197), some (aI v4), none, none, none, none]) ⟨rfl, rfl, rfl, rfl, rfl, trivial⟩ ?_
    exact hK _ _ _ _ (by omega) (by omega) hM
  · replace hM := hM.2 hc
    refine zV_iconst (z := 0) O ⟨by omega, by omega⟩ dL_law_1964 ?_
    exact zV_zret O rfl (Or.inl rfl) ⟨_, rfl, (Or.inl rfl), hM⟩ (by first | exact Nat.le_of_ble_eq_true rfl | (show _ ≤ 601024; omega) | (show _ ≤ 7293034; omega)) (by first | exact Nat.le_of_ble_eq_true rfl | (show _ ≤ 601024; omega) | (show _ ≤ 7293034; omega)) dL_law_1965
def mW_38 (sc : Int → Int) (L : Int) (Q : Int → Hp → Prop) (K : Int → Hp → Prop) (v4 : Int) (h : Hp) : Prop := (mX7_saveSnapshot h (fun h1 => (mX8_saveSnapshot h1 (fun h2 => (K v4 h2)))))
set_option maxHeartbeats 4000000 in
set_option maxRecDepth 100000 in
theorem sW_38 {l0 : Launch} {a : ZC} {b : Nat} {L : Int} {sc : Int → Int} {Q : Int → Hp → Prop} {K : Int → Hp → Prop} {k n : Nat} {v4 : Int} {h : Hp} (O : zOk l0 a cL_law RL 9 (some .boolean) 198 []) (hS : zScr a b L sc) (hk : k ≤ 600000) (hn : n ≤ 7200000) (hK : ∀ (k2 n2 : Nat) (v4 : Int) (h : Hp), k2 ≤ k + 1 → n2 ≤ n + 6 → K v4 h → zV a (2048, 601024, 7293034, (qZ Q), xN) k2 n2 2046 [some (aA (b + 1)), some (aR 169), some (aR 185), some (aR 197), some (aI v4), none, none, none, none] [] h) (hM : mW_38 sc L Q K v4 h) : zV a (2048, 601024, 7293034, (qZ Q), xN) k n 1966 [some (aA (b + 1)), some (aR 169), some (aR 185), some (aR 197), some (aI v4), none, none, none, none] [] h := by
  unfold mW_38 at hM
  refine zV_aload_n O dL_law_1966 rfl rfl ?_
  refine zV_callV (as := []) (st := []) O zc_X7_saveSnapshot (Or.inl zl_RL_234) zi_720 zi_721 zt_169 rfl rfl (by decide) (by first | exact Nat.le_of_ble_eq_true rfl | (show _ ≤ 601024; omega) | (show _ ≤ 7293034; omega)) rfl rfl (by first | exact Nat.le_of_ble_eq_true rfl | (show _ ≤ 601024; omega) | (show _ ≤ 7293034; omega)) (by first | exact Nat.le_of_ble_eq_true rfl | (show _ ≤ 601024; omega) | (show _ ≤ 7293034; omega)) (by first | exact Nat.le_of_ble_eq_true rfl | (show _ ≤ 601024; omega) | (show _ ≤ 7293034; omega)) (by first | exact Nat.le_of_ble_eq_true rfl | (show _ ≤ 601024; omega) | (show _ ≤ 7293034; omega)) (by first | exact Nat.le_of_ble_eq_true rfl | (show _ ≤ 601024; omega) | (show _ ≤ 7293034; omega)) (by first | exact Nat.le_of_ble_eq_true rfl | (show _ ≤ 601024; omega) | (show _ ≤ 7293034; omega)) dL_law_1967 (sX7_saveSnapshot hM) (fun r h1 hq => ?_) (fun x h9 hq => hq.elim)
  obtain ⟨rfl, hM⟩ := hq
  refine zV_aload_n O dL_law_1970 rfl rfl ?_
  refine zV_callV (as := []) (st := []) O zc_X8_saveSnapshot (Or.inl zl_RL_237) zi_1830 zi_1831 zt_185 rfl rfl (by decide) (by first | exact Nat.le_of_ble_eq_true rfl | (show _ ≤ 601024; omega) | (show _ ≤ 7293034; omega)) rfl rfl (by first | exact Nat.le_of_ble_eq_true rfl | (show _ ≤ 601024; omega) | (show _ ≤ 7293034; omega)) (by first | exact Nat.le_of_ble_eq_true rfl | (show _ ≤ 601024; omega) | (show _ ≤ 7293034; omega)) (by first | exact Nat.le_of_ble_eq_true rfl | (show _ ≤ 601024; omega) | (show _ ≤ 7293034; omega)) (by first | exact Nat.le_of_ble_eq_true rfl | (show _ ≤ 601024; omega) | (show _ ≤ 7293034; omega)) (by first | exact Nat.le_of_ble_eq_true rfl | (show _ ≤ 601024; omega) | (show _ ≤ 7293034; omega)) (by first | exact Nat.le_of_ble_eq_true rfl | (show _ ≤ 601024; omega) | (show _ ≤ 7293034; omega)) dL_law_1971 (sX8_saveSnapshot hM) (fun r h2 hq => ?_) (fun x h9 hq => hq.elim)
  obtain ⟨rfl, hM⟩ := hq
  refine zV_goto (tgt := 2046) O dL_law_1974 (by decide) ?_
  refine zV_sub (ls2 := [some (aA (b + 1)), some (aR 169), some (aR 185), some (aR 197), some (aI v4), none, none, none, none]) ⟨rfl, rfl, rfl, rfl, rfl, trivial⟩ ?_
  exact hK _ _ _ _ (by omega) (by omega) hM
def mW_39 (sc : Int → Int) (L : Int) (Q : Int → Hp → Prop) (K : Int → Hp → Prop) (v4 : Int) (h : Hp) : Prop := (mX7_restoreSnapshot h (fun z1 h2 => (mX8_restoreSnapshot h2 (fun z3 h4 => ((z1 = z3 → (K v4 h4)) ∧ (¬ z1 = z3 → (Q 0 h4)))))))
set_option maxHeartbeats 4000000 in
set_option maxRecDepth 100000 in
theorem sW_39 {l0 : Launch} {a : ZC} {b : Nat} {L : Int} {sc : Int → Int} {Q : Int → Hp → Prop} {K : Int → Hp → Prop} {k n : Nat} {v4 : Int} {h : Hp} (O : zOk l0 a cL_law RL 9 (some .boolean) 198 []) (hS : zScr a b L sc) (hk : k ≤ 600000) (hn : n ≤ 7200000) (hK : ∀ (k2 n2 : Nat) (v4 : Int) (h : Hp), k2 ≤ k + 1 → n2 ≤ n + 6 → K v4 h → zV a (2048, 601024, 7293034, (qZ Q), xN) k2 n2 2046 [some (aA (b + 1)), some (aR 169), some (aR 185), some (aR 197), some (aI v4), none, none, none, none] [] h) (hM : mW_39 sc L Q K v4 h) : zV a (2048, 601024, 7293034, (qZ Q), xN) k n 1977 [some (aA (b + 1)), some (aR 169), some (aR 185), some (aR 197), some (aI v4), none, none, none, none] [] h := by
  unfold mW_39 at hM
  refine zV_aload_n O dL_law_1977 rfl rfl ?_
  refine zV_callV (as := []) (st := []) O zc_X7_restoreSnapshot (Or.inl zl_RL_238) zi_724 zi_725 zt_169 rfl rfl (by decide) (by first | exact Nat.le_of_ble_eq_true rfl | (show _ ≤ 601024; omega) | (show _ ≤ 7293034; omega)) rfl rfl (by first | exact Nat.le_of_ble_eq_true rfl | (show _ ≤ 601024; omega) | (show _ ≤ 7293034; omega)) (by first | exact Nat.le_of_ble_eq_true rfl | (show _ ≤ 601024; omega) | (show _ ≤ 7293034; omega)) (by first | exact Nat.le_of_ble_eq_true rfl | (show _ ≤ 601024; omega) | (show _ ≤ 7293034; omega)) (by first | exact Nat.le_of_ble_eq_true rfl | (show _ ≤ 601024; omega) | (show _ ≤ 7293034; omega)) (by first | exact Nat.le_of_ble_eq_true rfl | (show _ ≤ 601024; omega) | (show _ ≤ 7293034; omega)) (by first | exact Nat.le_of_ble_eq_true rfl | (show _ ≤ 601024; omega) | (show _ ≤ 7293034; omega)) dL_law_1978 (sX7_restoreSnapshot hM) (fun r h2 hq => ?_) (fun x h9 hq => hq.elim)
  obtain ⟨z1, rfl, hzz1, hM⟩ := hq
  refine zV_aload_n O dL_law_1981 rfl rfl ?_
  refine zV_callV (as := []) (st := [aI z1]) O zc_X8_restoreSnapshot (Or.inl zl_RL_242) zi_1834 zi_1835 zt_185 rfl rfl (by decide) (by first | exact Nat.le_of_ble_eq_true rfl | (show _ ≤ 601024; omega) | (show _ ≤ 7293034; omega)) rfl rfl (by first | exact Nat.le_of_ble_eq_true rfl | (show _ ≤ 601024; omega) | (show _ ≤ 7293034; omega)) (by first | exact Nat.le_of_ble_eq_true rfl | (show _ ≤ 601024; omega) | (show _ ≤ 7293034; omega)) (by first | exact Nat.le_of_ble_eq_true rfl | (show _ ≤ 601024; omega) | (show _ ≤ 7293034; omega)) (by first | exact Nat.le_of_ble_eq_true rfl | (show _ ≤ 601024; omega) | (show _ ≤ 7293034; omega)) (by first | exact Nat.le_of_ble_eq_true rfl | (show _ ≤ 601024; omega) | (show _ ≤ 7293034; omega)) (by first | exact Nat.le_of_ble_eq_true rfl | (show _ ≤ 601024; omega) | (show _ ≤ 7293034; omega)) dL_law_1982 (sX8_restoreSnapshot hM) (fun r h4 hq => ?_) (fun x h9 hq => hq.elim)
  obtain ⟨z3, rfl, hzz3, hM⟩ := hq
  refine zV_icmp_eq (tgt := 2046) O dL_law_1985 (by decide) (fun hc => ?_) (fun hc => ?_)
  · replace hM := hM.1 hc
    refine zV_sub (ls2 := [some (aA (b + 1)), some (aR 169), some (aR 185), some (aR 197), some (aI v4), none, none, none, none]) ⟨rfl, rfl, rfl, rfl, rfl, trivial⟩ ?_
    exact hK _ _ _ _ (by omega) (by omega) hM
  · replace hM := hM.2 hc
    refine zV_iconst (z := 0) O ⟨by omega, by omega⟩ dL_law_1988 ?_
    exact zV_zret O rfl (Or.inl rfl) ⟨_, rfl, (Or.inl rfl), hM⟩ (by first | exact Nat.le_of_ble_eq_true rfl | (show _ ≤ 601024; omega) | (show _ ≤ 7293034; omega)) (by first | exact Nat.le_of_ble_eq_true rfl | (show _ ≤ 601024; omega) | (show _ ≤ 7293034; omega)) dL_law_1989
def mW_40 (sc : Int → Int) (L : Int) (Q : Int → Hp → Prop) (K : Int → Hp → Prop) (v4 : Int) (h : Hp) : Prop := (zr (v4 + 1) ∧ (((0 : Int) ≤ (v4 + 1) ∧ (v4 + 1) < L) ∧ (mL_query (sc (v4 + 1)) h (fun z1 h2 => (zr (v4 + 1) ∧ (((0 : Int) ≤ (v4 + 1) ∧ (v4 + 1) < L) ∧ (mX8_query (sc (v4 + 1)) h2 (fun z3 h4 => (mX8_thrown h4 (fun z5 => ((z5 = z1 → ((¬ z1 = 0 → (K v4 h4)) ∧ (z1 = 0 → (((0 : Int) ≤ 0 ∧ (0 : Int) < 1) ∧ (((zlcmp (rd h4 197 0) z3) = 0 → (K v4 h4)) ∧ (¬ (zlcmp (rd h4 197 0) z3) = 0 → (Q 0 h4))))))) ∧ (¬ z5 = z1 → (Q 0 h4)))))))))))))
set_option maxHeartbeats 4000000 in
set_option maxRecDepth 100000 in
theorem sW_40 {l0 : Launch} {a : ZC} {b : Nat} {L : Int} {sc : Int → Int} {Q : Int → Hp → Prop} {K : Int → Hp → Prop} {k n : Nat} {v4 : Int} {h : Hp} (O : zOk l0 a cL_law RL 9 (some .boolean) 198 []) (hS : zScr a b L sc) (hk : k ≤ 600000) (hn : n ≤ 7200000) (hK : ∀ (k2 n2 : Nat) (v4 : Int) (h : Hp), k2 ≤ k + 1 → n2 ≤ n + 6 → K v4 h → zV a (2048, 601024, 7293034, (qZ Q), xN) k2 n2 2046 [some (aA (b + 1)), some (aR 169), some (aR 185), some (aR 197), some (aI v4), none, none, none, none] [] h) (hM : mW_40 sc L Q K v4 h) : zV a (2048, 601024, 7293034, (qZ Q), xN) k n 1990 [some (aA (b + 1)), some (aR 169), some (aR 185), some (aR 197), some (aI v4), none, none, none, none] [] h := by
  unfold mW_40 at hM
  refine zV_aload_n O dL_law_1990 rfl rfl ?_
  refine zV_aload_n O dL_law_1991 rfl rfl ?_
  refine zV_iload O dL_law_1992 rfl ?_
  refine zV_iconst (z := 1) O ⟨by omega, by omega⟩ dL_law_1994 ?_
  obtain ⟨hc, hM⟩ := hM
  refine zV_iadd O dL_law_1995 hc ?_
  obtain ⟨hc, hM⟩ := hM
  refine zV_sld O hS hc dL_law_1996 ?_
  refine zV_aload_n O dL_law_1997 rfl rfl ?_
  refine zV_callSH (as := [aR 169, aI (sc (v4 + 1)), aR 197]) (st := []) O zch_L_query.1 zch_L_query.2.1 zch_L_query.2.2.1 zch_L_query.2.2.2 zl_RL_243 zi_1205 (by first | exact Nat.le_of_ble_eq_true rfl | (show _ ≤ 601024; omega) | (show _ ≤ 7293034; omega)) rfl rfl (by first | exact Nat.le_of_ble_eq_true rfl | (show _ ≤ 601024; omega) | (show _ ≤ 7293034; omega)) (by first | exact Nat.le_of_ble_eq_true rfl | (show _ ≤ 601024; omega) | (show _ ≤ 7293034; omega)) (by first | exact Nat.le_of_ble_eq_true rfl | (show _ ≤ 601024; omega) | (show _ ≤ 7293034; omega)) (by first | exact Nat.le_of_ble_eq_true rfl | (show _ ≤ 601024; omega) | (show _ ≤ 7293034; omega)) (by first | exact Nat.le_of_ble_eq_true rfl | (show _ ≤ 601024; omega) | (show _ ≤ 7293034; omega)) (by first | exact Nat.le_of_ble_eq_true rfl | (show _ ≤ 601024; omega) | (show _ ≤ 7293034; omega)) dL_law_1998 (sL_query hM) (fun r h2 hq => ?_) (fun x h9 hq => hq.elim)
  obtain ⟨z1, rfl, hM⟩ := hq
  refine zV_istore O dL_law_2001 (by first | exact Nat.le_of_ble_eq_true rfl | (show _ ≤ 601024; omega) | (show _ ≤ 7293034; omega)) rfl ?_
  refine zV_aload_n O dL_law_2003 rfl rfl ?_
  refine zV_aload_n O dL_law_2004 rfl rfl ?_
  refine zV_iload O dL_law_2005 rfl ?_
  refine zV_iconst (z := 1) O ⟨by omega, by omega⟩ dL_law_2007 ?_
  obtain ⟨hc, hM⟩ := hM
  refine zV_iadd O dL_law_2008 hc ?_
  obtain ⟨hc, hM⟩ := hM
  refine zV_sld O hS hc dL_law_2009 ?_
  refine zV_callV (as := [aI (sc (v4 + 1))]) (st := []) O zc_X8_query (Or.inl zl_RL_245) zi_1854 zi_1855 zt_185 rfl rfl (by decide) (by first | exact Nat.le_of_ble_eq_true rfl | (show _ ≤ 601024; omega) | (show _ ≤ 7293034; omega)) rfl rfl (by first | exact Nat.le_of_ble_eq_true rfl | (show _ ≤ 601024; omega) | (show _ ≤ 7293034; omega)) (by first | exact Nat.le_of_ble_eq_true rfl | (show _ ≤ 601024; omega) | (show _ ≤ 7293034; omega)) (by first | exact Nat.le_of_ble_eq_true rfl | (show _ ≤ 601024; omega) | (show _ ≤ 7293034; omega)) (by first | exact Nat.le_of_ble_eq_true rfl | (show _ ≤ 601024; omega) | (show _ ≤ 7293034; omega)) (by first | exact Nat.le_of_ble_eq_true rfl | (show _ ≤ 601024; omega) | (show _ ≤ 7293034; omega)) (by first | exact Nat.le_of_ble_eq_true rfl | (show _ ≤ 601024; omega) | (show _ ≤ 7293034; omega)) dL_law_2010 (sX8_query hM) (fun r h4 hq => ?_) (fun x h9 hq => hq.elim)
  obtain ⟨z3, rfl, hM⟩ := hq
  refine zV_istore O dL_law_2013 (by first | exact Nat.le_of_ble_eq_true rfl | (show _ ≤ 601024; omega) | (show _ ≤ 7293034; omega)) rfl ?_
  refine zV_aload_n O dL_law_2015 rfl rfl ?_
  refine zV_callV (as := []) (st := []) O zc_X8_thrown (Or.inl zl_RL_100) zi_1295 zi_1296 zt_185 rfl rfl (by decide) (by first | exact Nat.le_of_ble_eq_true rfl | (show _ ≤ 601024; omega) | (show _ ≤ 7293034; omega)) rfl rfl (by first | exact Nat.le_of_ble_eq_true rfl | (show _ ≤ 601024; omega) | (show _ ≤ 7293034; omega)) (by first | exact Nat.le_of_ble_eq_true rfl | (show _ ≤ 601024; omega) | (show _ ≤ 7293034; omega)) (by first | exact Nat.le_of_ble_eq_true rfl | (show _ ≤ 601024; omega) | (show _ ≤ 7293034; omega)) (by first | exact Nat.le_of_ble_eq_true rfl | (show _ ≤ 601024; omega) | (show _ ≤ 7293034; omega)) (by first | exact Nat.le_of_ble_eq_true rfl | (show _ ≤ 601024; omega) | (show _ ≤ 7293034; omega)) (by first | exact Nat.le_of_ble_eq_true rfl | (show _ ≤ 601024; omega) | (show _ ≤ 7293034; omega)) dL_law_2016 (sX8_thrown hM) (fun r h9 hq => ?_) (fun x h9 hq => hq.elim)
  obtain ⟨rfl, z5, rfl, hM⟩ := hq
  refine zV_iload O dL_law_2019 rfl ?_
  refine zV_icmp_eq (tgt := 2026) O dL_law_2021 (by decide) (fun hc => ?_) (fun hc => ?_)
  · replace hM := hM.1 hc
    refine zV_iload O dL_law_2026 rfl ?_
    refine zV_if_ne (tgt := 2043) O dL_law_2028 (by decide) (fun hc => ?_) (fun hc => ?_)
    · replace hM := hM.1 hc
      refine zV_goto (tgt := 2046) O dL_law_2043 (by decide) ?_
      refine zV_sub (ls2 := [some (aA (b + 1)), some (aR 169), some (aR 185), some (aR 197), some (aI v4), none, none, none, none]) ⟨rfl, rfl, rfl, rfl, rfl, trivial⟩ ?_
      exact hK _ _ _ _ (by omega) (by omega) hM
    · replace hM := hM.2 hc
      refine zV_aload_n O dL_law_2031 rfl rfl ?_
      refine zV_iconst (z := 0) O ⟨by omega, by omega⟩ dL_law_2032 ?_
      obtain ⟨hc, hM⟩ := hM
      refine zV_lald O zt_197 (by decide) hc dL_law_2033 ?_
      refine zV_iload O dL_law_2034 rfl ?_
      refine zV_i2l O dL_law_2036 ?_
      refine zV_lcmp O dL_law_2037 ?_
      refine zV_if_eq (tgt := 2043) O dL_law_2038 (by decide) (fun hc => ?_) (fun hc => ?_)
      · replace hM := hM.1 hc
        refine zV_goto (tgt := 2046) O dL_law_2043 (by decide) ?_
        refine zV_sub (ls2 := [some (aA (b + 1)), some (aR 169), some (aR 185), some (aR 197), some (aI v4), none, none, none, none]) ⟨rfl, rfl, rfl, rfl, rfl, trivial⟩ ?_
        exact hK _ _ _ _ (by omega) (by omega) hM
      · replace hM := hM.2 hc
        refine zV_iconst (z := 0) O ⟨by omega, by omega⟩ dL_law_2041 ?_
        exact zV_zret O rfl (Or.inl rfl) ⟨_, rfl, (Or.inl rfl), hM⟩ (by first | exact Nat.le_of_ble_eq_true rfl | (show _ ≤ 601024; omega) | (show _ ≤ 7293034; omega)) (by first | exact Nat.le_of_ble_eq_true rfl | (show _ ≤ 601024; omega) | (show _ ≤ 7293034; omega)) dL_law_2042
  · replace hM := hM.2 hc
    refine zV_iconst (z := 0) O ⟨by omega, by omega⟩ dL_law_2024 ?_
    exact zV_zret O rfl (Or.inl rfl) ⟨_, rfl, (Or.inl rfl), hM⟩ (by first | exact Nat.le_of_ble_eq_true rfl | (show _ ≤ 601024; omega) | (show _ ≤ 7293034; omega)) (by first | exact Nat.le_of_ble_eq_true rfl | (show _ ≤ 601024; omega) | (show _ ≤ 7293034; omega)) dL_law_2025
