/-! the law's words, and its script -/
theorem zi_481 : zIn (.instanceMethod yX7_feed) := zin_at 481 (by decide +kernel) (by decide +kernel)
theorem zi_482 : zIn (.selects yX7_feed.cls yX7_feed yX7_feed) := zin_at 482 (by decide +kernel) (by decide +kernel)
theorem zi_489 : zIn (.instanceMethod yX7_errorPosition) := zin_at 489 (by decide +kernel) (by decide +kernel)
theorem zi_490 : zIn (.selects yX7_errorPosition.cls yX7_errorPosition yX7_errorPosition) := zin_at 490 (by decide +kernel) (by decide +kernel)
theorem zi_493 : zIn (.instanceMethod yX7_freeNumber) := zin_at 493 (by decide +kernel) (by decide +kernel)
theorem zi_494 : zIn (.selects yX7_freeNumber.cls yX7_freeNumber yX7_freeNumber) := zin_at 494 (by decide +kernel) (by decide +kernel)
theorem zi_526 : zIn (.instanceMethod yX7_whyNot) := zin_at 526 (by decide +kernel) (by decide +kernel)
theorem zi_527 : zIn (.selects yX7_whyNot.cls yX7_whyNot yX7_whyNot) := zin_at 527 (by decide +kernel) (by decide +kernel)
theorem zi_580 : zIn (.instanceMethod yX7_conflict) := zin_at 580 (by decide +kernel) (by decide +kernel)
theorem zi_581 : zIn (.selects yX7_conflict.cls yX7_conflict yX7_conflict) := zin_at 581 (by decide +kernel) (by decide +kernel)
theorem zi_584 : zIn (.instanceMethod yX7_rewrites) := zin_at 584 (by decide +kernel) (by decide +kernel)
theorem zi_585 : zIn (.selects yX7_rewrites.cls yX7_rewrites yX7_rewrites) := zin_at 585 (by decide +kernel) (by decide +kernel)
theorem zi_592 : zIn (.instanceMethod yX7_openIn) := zin_at 592 (by decide +kernel) (by decide +kernel)
theorem zi_593 : zIn (.selects yX7_openIn.cls yX7_openIn yX7_openIn) := zin_at 593 (by decide +kernel) (by decide +kernel)
theorem zi_604 : zIn (.instanceMethod yX7_movedShare) := zin_at 604 (by decide +kernel) (by decide +kernel)
theorem zi_605 : zIn (.selects yX7_movedShare.cls yX7_movedShare yX7_movedShare) := zin_at 605 (by decide +kernel) (by decide +kernel)
theorem zi_612 : zIn (.instanceMethod yX7_meanReach) := zin_at 612 (by decide +kernel) (by decide +kernel)
theorem zi_613 : zIn (.selects yX7_meanReach.cls yX7_meanReach yX7_meanReach) := zin_at 613 (by decide +kernel) (by decide +kernel)
theorem zi_632 : zIn (.instanceMethod yX7_settle) := zin_at 632 (by decide +kernel) (by decide +kernel)
theorem zi_633 : zIn (.selects yX7_settle.cls yX7_settle yX7_settle) := zin_at 633 (by decide +kernel) (by decide +kernel)
theorem zi_664 : zIn (.instanceMethod yX7_wave) := zin_at 664 (by decide +kernel) (by decide +kernel)
theorem zi_665 : zIn (.selects yX7_wave.cls yX7_wave yX7_wave) := zin_at 665 (by decide +kernel) (by decide +kernel)
theorem zi_672 : zIn (.instanceMethod yX7_back) := zin_at 672 (by decide +kernel) (by decide +kernel)
theorem zi_673 : zIn (.selects yX7_back.cls yX7_back yX7_back) := zin_at 673 (by decide +kernel) (by decide +kernel)
theorem zi_688 : zIn (.instanceMethod yX7_open) := zin_at 688 (by decide +kernel) (by decide +kernel)
theorem zi_689 : zIn (.selects yX7_open.cls yX7_open yX7_open) := zin_at 689 (by decide +kernel) (by decide +kernel)
theorem zi_692 : zIn (.instanceMethod yX7_close) := zin_at 692 (by decide +kernel) (by decide +kernel)
theorem zi_693 : zIn (.selects yX7_close.cls yX7_close yX7_close) := zin_at 693 (by decide +kernel) (by decide +kernel)
theorem zi_700 : zIn (.instanceMethod yX7_formattedByte) := zin_at 700 (by decide +kernel) (by decide +kernel)
theorem zi_701 : zIn (.selects yX7_formattedByte.cls yX7_formattedByte yX7_formattedByte) := zin_at 701 (by decide +kernel) (by decide +kernel)
theorem zi_708 : zIn (.instanceMethod yX7_undoCount) := zin_at 708 (by decide +kernel) (by decide +kernel)
theorem zi_709 : zIn (.selects yX7_undoCount.cls yX7_undoCount yX7_undoCount) := zin_at 709 (by decide +kernel) (by decide +kernel)
theorem zi_712 : zIn (.instanceMethod yX7_undo) := zin_at 712 (by decide +kernel) (by decide +kernel)
theorem zi_713 : zIn (.selects yX7_undo.cls yX7_undo yX7_undo) := zin_at 713 (by decide +kernel) (by decide +kernel)
theorem zi_720 : zIn (.instanceMethod yX7_saveSnapshot) := zin_at 720 (by decide +kernel) (by decide +kernel)
theorem zi_721 : zIn (.selects yX7_saveSnapshot.cls yX7_saveSnapshot yX7_saveSnapshot) := zin_at 721 (by decide +kernel) (by decide +kernel)
theorem zi_724 : zIn (.instanceMethod yX7_restoreSnapshot) := zin_at 724 (by decide +kernel) (by decide +kernel)
theorem zi_725 : zIn (.selects yX7_restoreSnapshot.cls yX7_restoreSnapshot yX7_restoreSnapshot) := zin_at 725 (by decide +kernel) (by decide +kernel)
theorem zi_732 : zIn (.static yL_load) := zin_at 732 (by decide +kernel) (by decide +kernel)
theorem zi_969 : zIn (.static yL_size) := zin_at 969 (by decide +kernel) (by decide +kernel)
theorem zi_1000 : zIn (.static yL_host) := zin_at 1000 (by decide +kernel) (by decide +kernel)
theorem zi_1012 : zIn (.static yL_name) := zin_at 1012 (by decide +kernel) (by decide +kernel)
theorem zi_1022 : zIn (.static yL_holder) := zin_at 1022 (by decide +kernel) (by decide +kernel)
theorem zi_1036 : zIn (.static yL_clash) := zin_at 1036 (by decide +kernel) (by decide +kernel)
theorem zi_1047 : zIn (.static yL_plans) := zin_at 1047 (by decide +kernel) (by decide +kernel)
theorem zi_1058 : zIn (.static yL_rule) := zin_at 1058 (by decide +kernel) (by decide +kernel)
theorem zi_1069 : zIn (.static yL_decides) := zin_at 1069 (by decide +kernel) (by decide +kernel)
theorem zi_1088 : zIn (.static yL_allows) := zin_at 1088 (by decide +kernel) (by decide +kernel)
theorem zi_1096 : zIn (.static yL_reach) := zin_at 1096 (by decide +kernel) (by decide +kernel)
theorem zi_1103 : zIn (.static yL_clashesIn) := zin_at 1103 (by decide +kernel) (by decide +kernel)
theorem zi_1110 : zIn (.static yL_addHost) := zin_at 1110 (by decide +kernel) (by decide +kernel)
theorem zi_1119 : zIn (.static yL_removeHost) := zin_at 1119 (by decide +kernel) (by decide +kernel)
theorem zi_1130 : zIn (.static yL_plan) := zin_at 1130 (by decide +kernel) (by decide +kernel)
theorem zi_1137 : zIn (.static yL_unplan) := zin_at 1137 (by decide +kernel) (by decide +kernel)
theorem zi_1144 : zIn (.static yL_addRule) := zin_at 1144 (by decide +kernel) (by decide +kernel)
theorem zi_1155 : zIn (.static yL_removeRule) := zin_at 1155 (by decide +kernel) (by decide +kernel)
theorem zi_1166 : zIn (.static yL_setKeep) := zin_at 1166 (by decide +kernel) (by decide +kernel)
theorem zi_1173 : zIn (.static yL_setPinned) := zin_at 1173 (by decide +kernel) (by decide +kernel)
theorem zi_1180 : zIn (.static yL_format) := zin_at 1180 (by decide +kernel) (by decide +kernel)
theorem zi_1205 : zIn (.static yL_query) := zin_at 1205 (by decide +kernel) (by decide +kernel)
theorem zi_1295 : zIn (.instanceMethod yX8_thrown) := zin_at 1295 (by decide +kernel) (by decide +kernel)
theorem zi_1296 : zIn (.selects yX8_thrown.cls yX8_thrown yX8_thrown) := zin_at 1296 (by decide +kernel) (by decide +kernel)
theorem zi_1400 : zIn (.instanceMethod yX8_feed) := zin_at 1400 (by decide +kernel) (by decide +kernel)
theorem zi_1401 : zIn (.selects yX8_feed.cls yX8_feed yX8_feed) := zin_at 1401 (by decide +kernel) (by decide +kernel)
theorem zi_1408 : zIn (.instanceMethod yX8_errorPosition) := zin_at 1408 (by decide +kernel) (by decide +kernel)
theorem zi_1409 : zIn (.selects yX8_errorPosition.cls yX8_errorPosition yX8_errorPosition) := zin_at 1409 (by decide +kernel) (by decide +kernel)
theorem zi_1412 : zIn (.instanceMethod yX8_load) := zin_at 1412 (by decide +kernel) (by decide +kernel)
theorem zi_1413 : zIn (.selects yX8_load.cls yX8_load yX8_load) := zin_at 1413 (by decide +kernel) (by decide +kernel)
theorem zi_1539 : zIn (.instanceMethod yX8_size) := zin_at 1539 (by decide +kernel) (by decide +kernel)
theorem zi_1540 : zIn (.selects yX8_size.cls yX8_size yX8_size) := zin_at 1540 (by decide +kernel) (by decide +kernel)
theorem zi_1584 : zIn (.instanceMethod yX8_host) := zin_at 1584 (by decide +kernel) (by decide +kernel)
theorem zi_1585 : zIn (.selects yX8_host.cls yX8_host yX8_host) := zin_at 1585 (by decide +kernel) (by decide +kernel)
theorem zi_1593 : zIn (.instanceMethod yX8_name) := zin_at 1593 (by decide +kernel) (by decide +kernel)
theorem zi_1594 : zIn (.selects yX8_name.cls yX8_name yX8_name) := zin_at 1594 (by decide +kernel) (by decide +kernel)
theorem zi_1597 : zIn (.instanceMethod yX8_holder) := zin_at 1597 (by decide +kernel) (by decide +kernel)
theorem zi_1598 : zIn (.selects yX8_holder.cls yX8_holder yX8_holder) := zin_at 1598 (by decide +kernel) (by decide +kernel)
theorem zi_1607 : zIn (.instanceMethod yX8_clash) := zin_at 1607 (by decide +kernel) (by decide +kernel)
theorem zi_1608 : zIn (.selects yX8_clash.cls yX8_clash yX8_clash) := zin_at 1608 (by decide +kernel) (by decide +kernel)
theorem zi_1611 : zIn (.instanceMethod yX8_plans) := zin_at 1611 (by decide +kernel) (by decide +kernel)
theorem zi_1612 : zIn (.selects yX8_plans.cls yX8_plans yX8_plans) := zin_at 1612 (by decide +kernel) (by decide +kernel)
theorem zi_1618 : zIn (.instanceMethod yX8_rule) := zin_at 1618 (by decide +kernel) (by decide +kernel)
theorem zi_1619 : zIn (.selects yX8_rule.cls yX8_rule yX8_rule) := zin_at 1619 (by decide +kernel) (by decide +kernel)
theorem zi_1627 : zIn (.instanceMethod yX8_decides) := zin_at 1627 (by decide +kernel) (by decide +kernel)
theorem zi_1628 : zIn (.selects yX8_decides.cls yX8_decides yX8_decides) := zin_at 1628 (by decide +kernel) (by decide +kernel)
theorem zi_1643 : zIn (.instanceMethod yX8_allows) := zin_at 1643 (by decide +kernel) (by decide +kernel)
theorem zi_1644 : zIn (.selects yX8_allows.cls yX8_allows yX8_allows) := zin_at 1644 (by decide +kernel) (by decide +kernel)
theorem zi_1651 : zIn (.instanceMethod yX8_reach) := zin_at 1651 (by decide +kernel) (by decide +kernel)
theorem zi_1652 : zIn (.selects yX8_reach.cls yX8_reach yX8_reach) := zin_at 1652 (by decide +kernel) (by decide +kernel)
theorem zi_1663 : zIn (.instanceMethod yX8_freeNumber) := zin_at 1663 (by decide +kernel) (by decide +kernel)
theorem zi_1664 : zIn (.selects yX8_freeNumber.cls yX8_freeNumber yX8_freeNumber) := zin_at 1664 (by decide +kernel) (by decide +kernel)
theorem zi_1675 : zIn (.instanceMethod yX8_whyNot) := zin_at 1675 (by decide +kernel) (by decide +kernel)
theorem zi_1676 : zIn (.selects yX8_whyNot.cls yX8_whyNot yX8_whyNot) := zin_at 1676 (by decide +kernel) (by decide +kernel)
theorem zi_1719 : zIn (.instanceMethod yX8_conflict) := zin_at 1719 (by decide +kernel) (by decide +kernel)
theorem zi_1720 : zIn (.selects yX8_conflict.cls yX8_conflict yX8_conflict) := zin_at 1720 (by decide +kernel) (by decide +kernel)
theorem zi_1723 : zIn (.instanceMethod yX8_rewrites) := zin_at 1723 (by decide +kernel) (by decide +kernel)
theorem zi_1724 : zIn (.selects yX8_rewrites.cls yX8_rewrites yX8_rewrites) := zin_at 1724 (by decide +kernel) (by decide +kernel)
theorem zi_1727 : zIn (.instanceMethod yX8_clashesIn) := zin_at 1727 (by decide +kernel) (by decide +kernel)
theorem zi_1728 : zIn (.selects yX8_clashesIn.cls yX8_clashesIn yX8_clashesIn) := zin_at 1728 (by decide +kernel) (by decide +kernel)
theorem zi_1731 : zIn (.instanceMethod yX8_openIn) := zin_at 1731 (by decide +kernel) (by decide +kernel)
theorem zi_1732 : zIn (.selects yX8_openIn.cls yX8_openIn yX8_openIn) := zin_at 1732 (by decide +kernel) (by decide +kernel)
theorem zi_1735 : zIn (.instanceMethod yX8_movedShare) := zin_at 1735 (by decide +kernel) (by decide +kernel)
theorem zi_1736 : zIn (.selects yX8_movedShare.cls yX8_movedShare yX8_movedShare) := zin_at 1736 (by decide +kernel) (by decide +kernel)
theorem zi_1739 : zIn (.instanceMethod yX8_meanReach) := zin_at 1739 (by decide +kernel) (by decide +kernel)
theorem zi_1740 : zIn (.selects yX8_meanReach.cls yX8_meanReach yX8_meanReach) := zin_at 1740 (by decide +kernel) (by decide +kernel)
theorem zi_1743 : zIn (.instanceMethod yX8_addHost) := zin_at 1743 (by decide +kernel) (by decide +kernel)
theorem zi_1744 : zIn (.selects yX8_addHost.cls yX8_addHost yX8_addHost) := zin_at 1744 (by decide +kernel) (by decide +kernel)
theorem zi_1755 : zIn (.instanceMethod yX8_removeHost) := zin_at 1755 (by decide +kernel) (by decide +kernel)
theorem zi_1756 : zIn (.selects yX8_removeHost.cls yX8_removeHost yX8_removeHost) := zin_at 1756 (by decide +kernel) (by decide +kernel)
theorem zi_1759 : zIn (.instanceMethod yX8_plan) := zin_at 1759 (by decide +kernel) (by decide +kernel)
theorem zi_1760 : zIn (.selects yX8_plan.cls yX8_plan yX8_plan) := zin_at 1760 (by decide +kernel) (by decide +kernel)
theorem zi_1763 : zIn (.instanceMethod yX8_unplan) := zin_at 1763 (by decide +kernel) (by decide +kernel)
theorem zi_1764 : zIn (.selects yX8_unplan.cls yX8_unplan yX8_unplan) := zin_at 1764 (by decide +kernel) (by decide +kernel)
theorem zi_1771 : zIn (.instanceMethod yX8_settle) := zin_at 1771 (by decide +kernel) (by decide +kernel)
theorem zi_1772 : zIn (.selects yX8_settle.cls yX8_settle yX8_settle) := zin_at 1772 (by decide +kernel) (by decide +kernel)
theorem zi_1783 : zIn (.instanceMethod yX8_wave) := zin_at 1783 (by decide +kernel) (by decide +kernel)
theorem zi_1784 : zIn (.selects yX8_wave.cls yX8_wave yX8_wave) := zin_at 1784 (by decide +kernel) (by decide +kernel)
theorem zi_1787 : zIn (.instanceMethod yX8_back) := zin_at 1787 (by decide +kernel) (by decide +kernel)
theorem zi_1788 : zIn (.selects yX8_back.cls yX8_back yX8_back) := zin_at 1788 (by decide +kernel) (by decide +kernel)
theorem zi_1795 : zIn (.instanceMethod yX8_open) := zin_at 1795 (by decide +kernel) (by decide +kernel)
theorem zi_1796 : zIn (.selects yX8_open.cls yX8_open yX8_open) := zin_at 1796 (by decide +kernel) (by decide +kernel)
theorem zi_1799 : zIn (.instanceMethod yX8_close) := zin_at 1799 (by decide +kernel) (by decide +kernel)
theorem zi_1800 : zIn (.selects yX8_close.cls yX8_close yX8_close) := zin_at 1800 (by decide +kernel) (by decide +kernel)
theorem zi_1803 : zIn (.instanceMethod yX8_addRule) := zin_at 1803 (by decide +kernel) (by decide +kernel)
theorem zi_1804 : zIn (.selects yX8_addRule.cls yX8_addRule yX8_addRule) := zin_at 1804 (by decide +kernel) (by decide +kernel)
theorem zi_1810 : zIn (.instanceMethod yX8_removeRule) := zin_at 1810 (by decide +kernel) (by decide +kernel)
theorem zi_1811 : zIn (.selects yX8_removeRule.cls yX8_removeRule yX8_removeRule) := zin_at 1811 (by decide +kernel) (by decide +kernel)
theorem zi_1814 : zIn (.instanceMethod yX8_setKeep) := zin_at 1814 (by decide +kernel) (by decide +kernel)
theorem zi_1815 : zIn (.selects yX8_setKeep.cls yX8_setKeep yX8_setKeep) := zin_at 1815 (by decide +kernel) (by decide +kernel)
theorem zi_1818 : zIn (.instanceMethod yX8_setPinned) := zin_at 1818 (by decide +kernel) (by decide +kernel)
theorem zi_1819 : zIn (.selects yX8_setPinned.cls yX8_setPinned yX8_setPinned) := zin_at 1819 (by decide +kernel) (by decide +kernel)
theorem zi_1822 : zIn (.instanceMethod yX8_undoCount) := zin_at 1822 (by decide +kernel) (by decide +kernel)
theorem zi_1823 : zIn (.selects yX8_undoCount.cls yX8_undoCount yX8_undoCount) := zin_at 1823 (by decide +kernel) (by decide +kernel)
theorem zi_1826 : zIn (.instanceMethod yX8_undo) := zin_at 1826 (by decide +kernel) (by decide +kernel)
theorem zi_1827 : zIn (.selects yX8_undo.cls yX8_undo yX8_undo) := zin_at 1827 (by decide +kernel) (by decide +kernel)
theorem zi_1830 : zIn (.instanceMethod yX8_saveSnapshot) := zin_at 1830 (by decide +kernel) (by decide +kernel)
theorem zi_1831 : zIn (.selects yX8_saveSnapshot.cls yX8_saveSnapshot yX8_saveSnapshot) := zin_at 1831 (by decide +kernel) (by decide +kernel)
theorem zi_1834 : zIn (.instanceMethod yX8_restoreSnapshot) := zin_at 1834 (by decide +kernel) (by decide +kernel)
theorem zi_1835 : zIn (.selects yX8_restoreSnapshot.cls yX8_restoreSnapshot yX8_restoreSnapshot) := zin_at 1835 (by decide +kernel) (by decide +kernel)
theorem zi_1838 : zIn (.instanceMethod yX8_format) := zin_at 1838 (by decide +kernel) (by decide +kernel)
theorem zi_1839 : zIn (.selects yX8_format.cls yX8_format yX8_format) := zin_at 1839 (by decide +kernel) (by decide +kernel)
theorem zi_1850 : zIn (.instanceMethod yX8_formattedByte) := zin_at 1850 (by decide +kernel) (by decide +kernel)
theorem zi_1851 : zIn (.selects yX8_formattedByte.cls yX8_formattedByte yX8_formattedByte) := zin_at 1851 (by decide +kernel) (by decide +kernel)
theorem zi_1854 : zIn (.instanceMethod yX8_query) := zin_at 1854 (by decide +kernel) (by decide +kernel)
theorem zi_1855 : zIn (.selects yX8_query.cls yX8_query yX8_query) := zin_at 1855 (by decide +kernel) (by decide +kernel)
theorem zl_RL_89 : zIn (.methodLink RL 89 yX7_feed) := zin_at 480 (by decide +kernel) (by decide +kernel)
theorem zl_RL_93 : zIn (.methodLink RL 93 yX8_feed) := zin_at 1399 (by decide +kernel) (by decide +kernel)
theorem zl_RL_94 : zIn (.methodLink RL 94 yL_load) := zin_at 731 (by decide +kernel) (by decide +kernel)
theorem zl_RL_99 : zIn (.methodLink RL 99 yX8_load) := zin_at 1411 (by decide +kernel) (by decide +kernel)
theorem zl_RL_100 : zIn (.methodLink RL 100 yX8_thrown) := zin_at 1294 (by decide +kernel) (by decide +kernel)
theorem zl_RL_104 : zIn (.methodLink RL 104 yX7_errorPosition) := zin_at 488 (by decide +kernel) (by decide +kernel)
theorem zl_RL_107 : zIn (.methodLink RL 107 yX8_errorPosition) := zin_at 1407 (by decide +kernel) (by decide +kernel)
theorem zl_RL_108 : zIn (.methodLink RL 108 yL_size) := zin_at 968 (by decide +kernel) (by decide +kernel)
theorem zl_RL_110 : zIn (.methodLink RL 110 yX8_size) := zin_at 1538 (by decide +kernel) (by decide +kernel)
theorem zl_RL_111 : zIn (.methodLink RL 111 yL_host) := zin_at 999 (by decide +kernel) (by decide +kernel)
theorem zl_RL_114 : zIn (.methodLink RL 114 yX8_host) := zin_at 1583 (by decide +kernel) (by decide +kernel)
theorem zl_RL_115 : zIn (.methodLink RL 115 yL_name) := zin_at 1011 (by decide +kernel) (by decide +kernel)
theorem zl_RL_117 : zIn (.methodLink RL 117 yX8_name) := zin_at 1592 (by decide +kernel) (by decide +kernel)
theorem zl_RL_118 : zIn (.methodLink RL 118 yL_holder) := zin_at 1021 (by decide +kernel) (by decide +kernel)
theorem zl_RL_120 : zIn (.methodLink RL 120 yX8_holder) := zin_at 1596 (by decide +kernel) (by decide +kernel)
theorem zl_RL_121 : zIn (.methodLink RL 121 yL_clash) := zin_at 1035 (by decide +kernel) (by decide +kernel)
theorem zl_RL_123 : zIn (.methodLink RL 123 yX8_clash) := zin_at 1606 (by decide +kernel) (by decide +kernel)
theorem zl_RL_124 : zIn (.methodLink RL 124 yL_plans) := zin_at 1046 (by decide +kernel) (by decide +kernel)
theorem zl_RL_126 : zIn (.methodLink RL 126 yX8_plans) := zin_at 1610 (by decide +kernel) (by decide +kernel)
theorem zl_RL_127 : zIn (.methodLink RL 127 yL_rule) := zin_at 1057 (by decide +kernel) (by decide +kernel)
theorem zl_RL_129 : zIn (.methodLink RL 129 yX8_rule) := zin_at 1617 (by decide +kernel) (by decide +kernel)
theorem zl_RL_130 : zIn (.methodLink RL 130 yL_decides) := zin_at 1068 (by decide +kernel) (by decide +kernel)
theorem zl_RL_133 : zIn (.methodLink RL 133 yX8_decides) := zin_at 1626 (by decide +kernel) (by decide +kernel)
theorem zl_RL_134 : zIn (.methodLink RL 134 yL_allows) := zin_at 1087 (by decide +kernel) (by decide +kernel)
theorem zl_RL_136 : zIn (.methodLink RL 136 yX8_allows) := zin_at 1642 (by decide +kernel) (by decide +kernel)
theorem zl_RL_137 : zIn (.methodLink RL 137 yL_reach) := zin_at 1095 (by decide +kernel) (by decide +kernel)
theorem zl_RL_139 : zIn (.methodLink RL 139 yX8_reach) := zin_at 1650 (by decide +kernel) (by decide +kernel)
theorem zl_RL_140 : zIn (.methodLink RL 140 yX7_freeNumber) := zin_at 492 (by decide +kernel) (by decide +kernel)
theorem zl_RL_143 : zIn (.methodLink RL 143 yX8_freeNumber) := zin_at 1662 (by decide +kernel) (by decide +kernel)
theorem zl_RL_144 : zIn (.methodLink RL 144 yX7_whyNot) := zin_at 525 (by decide +kernel) (by decide +kernel)
theorem zl_RL_147 : zIn (.methodLink RL 147 yX8_whyNot) := zin_at 1674 (by decide +kernel) (by decide +kernel)
theorem zl_RL_148 : zIn (.methodLink RL 148 yX7_conflict) := zin_at 579 (by decide +kernel) (by decide +kernel)
theorem zl_RL_151 : zIn (.methodLink RL 151 yX8_conflict) := zin_at 1718 (by decide +kernel) (by decide +kernel)
theorem zl_RL_152 : zIn (.methodLink RL 152 yX7_rewrites) := zin_at 583 (by decide +kernel) (by decide +kernel)
theorem zl_RL_155 : zIn (.methodLink RL 155 yX8_rewrites) := zin_at 1722 (by decide +kernel) (by decide +kernel)
theorem zl_RL_156 : zIn (.methodLink RL 156 yL_clashesIn) := zin_at 1102 (by decide +kernel) (by decide +kernel)
theorem zl_RL_158 : zIn (.methodLink RL 158 yX8_clashesIn) := zin_at 1726 (by decide +kernel) (by decide +kernel)
theorem zl_RL_159 : zIn (.methodLink RL 159 yX7_openIn) := zin_at 591 (by decide +kernel) (by decide +kernel)
theorem zl_RL_162 : zIn (.methodLink RL 162 yX8_openIn) := zin_at 1730 (by decide +kernel) (by decide +kernel)
theorem zl_RL_163 : zIn (.methodLink RL 163 yX7_movedShare) := zin_at 603 (by decide +kernel) (by decide +kernel)
theorem zl_RL_167 : zIn (.methodLink RL 167 yX8_movedShare) := zin_at 1734 (by decide +kernel) (by decide +kernel)
theorem zl_RL_168 : zIn (.methodLink RL 168 yX7_meanReach) := zin_at 611 (by decide +kernel) (by decide +kernel)
theorem zl_RL_172 : zIn (.methodLink RL 172 yX8_meanReach) := zin_at 1738 (by decide +kernel) (by decide +kernel)
theorem zl_RL_173 : zIn (.methodLink RL 173 yL_addHost) := zin_at 1109 (by decide +kernel) (by decide +kernel)
theorem zl_RL_175 : zIn (.methodLink RL 175 yX8_addHost) := zin_at 1742 (by decide +kernel) (by decide +kernel)
theorem zl_RL_176 : zIn (.methodLink RL 176 yL_removeHost) := zin_at 1118 (by decide +kernel) (by decide +kernel)
theorem zl_RL_178 : zIn (.methodLink RL 178 yX8_removeHost) := zin_at 1754 (by decide +kernel) (by decide +kernel)
theorem zl_RL_179 : zIn (.methodLink RL 179 yL_plan) := zin_at 1129 (by decide +kernel) (by decide +kernel)
theorem zl_RL_181 : zIn (.methodLink RL 181 yX8_plan) := zin_at 1758 (by decide +kernel) (by decide +kernel)
theorem zl_RL_182 : zIn (.methodLink RL 182 yL_unplan) := zin_at 1136 (by decide +kernel) (by decide +kernel)
theorem zl_RL_184 : zIn (.methodLink RL 184 yX8_unplan) := zin_at 1762 (by decide +kernel) (by decide +kernel)
theorem zl_RL_185 : zIn (.methodLink RL 185 yX7_settle) := zin_at 631 (by decide +kernel) (by decide +kernel)
theorem zl_RL_188 : zIn (.methodLink RL 188 yX8_settle) := zin_at 1770 (by decide +kernel) (by decide +kernel)
theorem zl_RL_189 : zIn (.methodLink RL 189 yX7_wave) := zin_at 663 (by decide +kernel) (by decide +kernel)
theorem zl_RL_192 : zIn (.methodLink RL 192 yX8_wave) := zin_at 1782 (by decide +kernel) (by decide +kernel)
theorem zl_RL_193 : zIn (.methodLink RL 193 yX7_back) := zin_at 671 (by decide +kernel) (by decide +kernel)
theorem zl_RL_196 : zIn (.methodLink RL 196 yX8_back) := zin_at 1786 (by decide +kernel) (by decide +kernel)
theorem zl_RL_197 : zIn (.methodLink RL 197 yX7_open) := zin_at 687 (by decide +kernel) (by decide +kernel)
theorem zl_RL_200 : zIn (.methodLink RL 200 yX8_open) := zin_at 1794 (by decide +kernel) (by decide +kernel)
theorem zl_RL_201 : zIn (.methodLink RL 201 yX7_close) := zin_at 691 (by decide +kernel) (by decide +kernel)
theorem zl_RL_204 : zIn (.methodLink RL 204 yX8_close) := zin_at 1798 (by decide +kernel) (by decide +kernel)
theorem zl_RL_205 : zIn (.methodLink RL 205 yL_addRule) := zin_at 1143 (by decide +kernel) (by decide +kernel)
theorem zl_RL_208 : zIn (.methodLink RL 208 yX8_addRule) := zin_at 1802 (by decide +kernel) (by decide +kernel)
theorem zl_RL_209 : zIn (.methodLink RL 209 yL_removeRule) := zin_at 1154 (by decide +kernel) (by decide +kernel)
theorem zl_RL_211 : zIn (.methodLink RL 211 yX8_removeRule) := zin_at 1809 (by decide +kernel) (by decide +kernel)
theorem zl_RL_212 : zIn (.methodLink RL 212 yL_setKeep) := zin_at 1165 (by decide +kernel) (by decide +kernel)
theorem zl_RL_214 : zIn (.methodLink RL 214 yX8_setKeep) := zin_at 1813 (by decide +kernel) (by decide +kernel)
theorem zl_RL_215 : zIn (.methodLink RL 215 yL_setPinned) := zin_at 1172 (by decide +kernel) (by decide +kernel)
theorem zl_RL_218 : zIn (.methodLink RL 218 yX8_setPinned) := zin_at 1817 (by decide +kernel) (by decide +kernel)
theorem zl_RL_219 : zIn (.methodLink RL 219 yL_format) := zin_at 1179 (by decide +kernel) (by decide +kernel)
theorem zl_RL_221 : zIn (.methodLink RL 221 yX8_format) := zin_at 1837 (by decide +kernel) (by decide +kernel)
theorem zl_RL_222 : zIn (.methodLink RL 222 yX7_formattedByte) := zin_at 699 (by decide +kernel) (by decide +kernel)
theorem zl_RL_225 : zIn (.methodLink RL 225 yX8_formattedByte) := zin_at 1849 (by decide +kernel) (by decide +kernel)
theorem zl_RL_226 : zIn (.methodLink RL 226 yX7_undoCount) := zin_at 707 (by decide +kernel) (by decide +kernel)
theorem zl_RL_229 : zIn (.methodLink RL 229 yX8_undoCount) := zin_at 1821 (by decide +kernel) (by decide +kernel)
theorem zl_RL_230 : zIn (.methodLink RL 230 yX7_undo) := zin_at 711 (by decide +kernel) (by decide +kernel)
theorem zl_RL_233 : zIn (.methodLink RL 233 yX8_undo) := zin_at 1825 (by decide +kernel) (by decide +kernel)
theorem zl_RL_234 : zIn (.methodLink RL 234 yX7_saveSnapshot) := zin_at 719 (by decide +kernel) (by decide +kernel)
theorem zl_RL_237 : zIn (.methodLink RL 237 yX8_saveSnapshot) := zin_at 1829 (by decide +kernel) (by decide +kernel)
theorem zl_RL_238 : zIn (.methodLink RL 238 yX7_restoreSnapshot) := zin_at 723 (by decide +kernel) (by decide +kernel)
theorem zl_RL_242 : zIn (.methodLink RL 242 yX8_restoreSnapshot) := zin_at 1833 (by decide +kernel) (by decide +kernel)
theorem zl_RL_243 : zIn (.methodLink RL 243 yL_query) := zin_at 1204 (by decide +kernel) (by decide +kernel)
theorem zl_RL_245 : zIn (.methodLink RL 245 yX8_query) := zin_at 1853 (by decide +kernel) (by decide +kernel)
theorem zch_L_addHost : zIn (.initialized yL_addHost.cls) ∧ zIn (.codeWith yL_addHost cL_addHost 5 (some .int) [(0, 10, 13, 18), (0, 10, 17, 13)]) ∧ (yL_addHost.cls ≠ "java/lang/invoke/MethodHandle" ∧ yL_addHost.cls ≠ "java/lang/invoke/VarHandle") ∧ (parseMethodDescriptor yL_addHost.desc).map (fun d => d.parameters.length) = some 4 := ⟨zin_at 166 (by decide +kernel) (by decide +kernel), zin_at 1111 (by decide +kernel) (by decide +kernel), by decide, by decide +kernel⟩
theorem zch_L_addRule : zIn (.initialized yL_addRule.cls) ∧ zIn (.codeWith yL_addRule cL_addRule 7 (some .int) [(0, 14, 17, 18), (0, 14, 21, 13)]) ∧ (yL_addRule.cls ≠ "java/lang/invoke/MethodHandle" ∧ yL_addRule.cls ≠ "java/lang/invoke/VarHandle") ∧ (parseMethodDescriptor yL_addRule.desc).map (fun d => d.parameters.length) = some 6 := ⟨zin_at 166 (by decide +kernel) (by decide +kernel), zin_at 1145 (by decide +kernel) (by decide +kernel), by decide, by decide +kernel⟩
theorem zch_L_allows : zIn (.initialized yL_allows.cls) ∧ zIn (.codeWith yL_allows cL_allows 6 (some .int) [(0, 19, 22, 18), (0, 19, 26, 13)]) ∧ (yL_allows.cls ≠ "java/lang/invoke/MethodHandle" ∧ yL_allows.cls ≠ "java/lang/invoke/VarHandle") ∧ (parseMethodDescriptor yL_allows.desc).map (fun d => d.parameters.length) = some 5 := ⟨zin_at 166 (by decide +kernel) (by decide +kernel), zin_at 1089 (by decide +kernel) (by decide +kernel), by decide, by decide +kernel⟩
theorem zch_L_clash : zIn (.initialized yL_clash.cls) ∧ zIn (.codeWith yL_clash cL_clash 4 (some .int) [(0, 9, 12, 18)]) ∧ (yL_clash.cls ≠ "java/lang/invoke/MethodHandle" ∧ yL_clash.cls ≠ "java/lang/invoke/VarHandle") ∧ (parseMethodDescriptor yL_clash.desc).map (fun d => d.parameters.length) = some 3 := ⟨zin_at 166 (by decide +kernel) (by decide +kernel), zin_at 1037 (by decide +kernel) (by decide +kernel), by decide, by decide +kernel⟩
theorem zch_L_clashesIn : zIn (.initialized yL_clashesIn.cls) ∧ zIn (.codeWith yL_clashesIn cL_clashesIn 4 (some .int) [(0, 9, 12, 13)]) ∧ (yL_clashesIn.cls ≠ "java/lang/invoke/MethodHandle" ∧ yL_clashesIn.cls ≠ "java/lang/invoke/VarHandle") ∧ (parseMethodDescriptor yL_clashesIn.desc).map (fun d => d.parameters.length) = some 3 := ⟨zin_at 166 (by decide +kernel) (by decide +kernel), zin_at 1104 (by decide +kernel) (by decide +kernel), by decide, by decide +kernel⟩
theorem zch_L_decides : zIn (.initialized yL_decides.cls) ∧ zIn (.codeWith yL_decides cL_decides 6 (some .int) [(0, 12, 15, 18), (0, 12, 19, 13)]) ∧ (yL_decides.cls ≠ "java/lang/invoke/MethodHandle" ∧ yL_decides.cls ≠ "java/lang/invoke/VarHandle") ∧ (parseMethodDescriptor yL_decides.desc).map (fun d => d.parameters.length) = some 5 := ⟨zin_at 166 (by decide +kernel) (by decide +kernel), zin_at 1070 (by decide +kernel) (by decide +kernel), by decide, by decide +kernel⟩
theorem zch_L_format : zIn (.initialized yL_format.cls) ∧ zIn (.codeWith yL_format cL_format 4 (some .int) [(0, 9, 12, 18)]) ∧ (yL_format.cls ≠ "java/lang/invoke/MethodHandle" ∧ yL_format.cls ≠ "java/lang/invoke/VarHandle") ∧ (parseMethodDescriptor yL_format.desc).map (fun d => d.parameters.length) = some 3 := ⟨zin_at 166 (by decide +kernel) (by decide +kernel), zin_at 1181 (by decide +kernel) (by decide +kernel), by decide, by decide +kernel⟩
theorem zch_L_holder : zIn (.initialized yL_holder.cls) ∧ zIn (.codeWith yL_holder cL_holder 5 (some .int) [(0, 10, 13, 18), (0, 10, 17, 13)]) ∧ (yL_holder.cls ≠ "java/lang/invoke/MethodHandle" ∧ yL_holder.cls ≠ "java/lang/invoke/VarHandle") ∧ (parseMethodDescriptor yL_holder.desc).map (fun d => d.parameters.length) = some 4 := ⟨zin_at 166 (by decide +kernel) (by decide +kernel), zin_at 1023 (by decide +kernel) (by decide +kernel), by decide, by decide +kernel⟩
theorem zch_L_host : zIn (.initialized yL_host.cls) ∧ zIn (.codeWith yL_host cL_host 5 (some .int) [(0, 10, 13, 18)]) ∧ (yL_host.cls ≠ "java/lang/invoke/MethodHandle" ∧ yL_host.cls ≠ "java/lang/invoke/VarHandle") ∧ (parseMethodDescriptor yL_host.desc).map (fun d => d.parameters.length) = some 4 := ⟨zin_at 166 (by decide +kernel) (by decide +kernel), zin_at 1001 (by decide +kernel) (by decide +kernel), by decide, by decide +kernel⟩
theorem zch_L_load : zIn (.initialized yL_load.cls) ∧ zIn (.codeWith yL_load cL_load 4 (some .int) [(0, 9, 12, 13)]) ∧ (yL_load.cls ≠ "java/lang/invoke/MethodHandle" ∧ yL_load.cls ≠ "java/lang/invoke/VarHandle") ∧ (parseMethodDescriptor yL_load.desc).map (fun d => d.parameters.length) = some 3 := ⟨zin_at 166 (by decide +kernel) (by decide +kernel), zin_at 733 (by decide +kernel) (by decide +kernel), by decide, by decide +kernel⟩
theorem zch_L_name : zIn (.initialized yL_name.cls) ∧ zIn (.codeWith yL_name cL_name 5 (some .int) [(0, 10, 13, 18)]) ∧ (yL_name.cls ≠ "java/lang/invoke/MethodHandle" ∧ yL_name.cls ≠ "java/lang/invoke/VarHandle") ∧ (parseMethodDescriptor yL_name.desc).map (fun d => d.parameters.length) = some 4 := ⟨zin_at 166 (by decide +kernel) (by decide +kernel), zin_at 1013 (by decide +kernel) (by decide +kernel), by decide, by decide +kernel⟩
theorem zch_L_plan : zIn (.initialized yL_plan.cls) ∧ zIn (.codeWith yL_plan cL_plan 6 (some .int) [(0, 12, 15, 18), (0, 12, 19, 13)]) ∧ (yL_plan.cls ≠ "java/lang/invoke/MethodHandle" ∧ yL_plan.cls ≠ "java/lang/invoke/VarHandle") ∧ (parseMethodDescriptor yL_plan.desc).map (fun d => d.parameters.length) = some 5 := ⟨zin_at 166 (by decide +kernel) (by decide +kernel), zin_at 1131 (by decide +kernel) (by decide +kernel), by decide, by decide +kernel⟩
theorem zch_L_plans : zIn (.initialized yL_plans.cls) ∧ zIn (.codeWith yL_plans cL_plans 4 (some .int) [(0, 9, 12, 13)]) ∧ (yL_plans.cls ≠ "java/lang/invoke/MethodHandle" ∧ yL_plans.cls ≠ "java/lang/invoke/VarHandle") ∧ (parseMethodDescriptor yL_plans.desc).map (fun d => d.parameters.length) = some 3 := ⟨zin_at 166 (by decide +kernel) (by decide +kernel), zin_at 1048 (by decide +kernel) (by decide +kernel), by decide, by decide +kernel⟩
theorem zch_L_query : zIn (.initialized yL_query.cls) ∧ zIn (.codeWith yL_query cL_query 4 (some .int) [(0, 9, 12, 13)]) ∧ (yL_query.cls ≠ "java/lang/invoke/MethodHandle" ∧ yL_query.cls ≠ "java/lang/invoke/VarHandle") ∧ (parseMethodDescriptor yL_query.desc).map (fun d => d.parameters.length) = some 3 := ⟨zin_at 166 (by decide +kernel) (by decide +kernel), zin_at 1206 (by decide +kernel) (by decide +kernel), by decide, by decide +kernel⟩
theorem zch_L_reach : zIn (.initialized yL_reach.cls) ∧ zIn (.codeWith yL_reach cL_reach 4 (some .int) [(0, 9, 12, 18)]) ∧ (yL_reach.cls ≠ "java/lang/invoke/MethodHandle" ∧ yL_reach.cls ≠ "java/lang/invoke/VarHandle") ∧ (parseMethodDescriptor yL_reach.desc).map (fun d => d.parameters.length) = some 3 := ⟨zin_at 166 (by decide +kernel) (by decide +kernel), zin_at 1097 (by decide +kernel) (by decide +kernel), by decide, by decide +kernel⟩
theorem zch_L_removeHost : zIn (.initialized yL_removeHost.cls) ∧ zIn (.codeWith yL_removeHost cL_removeHost 4 (some .int) [(0, 9, 12, 18)]) ∧ (yL_removeHost.cls ≠ "java/lang/invoke/MethodHandle" ∧ yL_removeHost.cls ≠ "java/lang/invoke/VarHandle") ∧ (parseMethodDescriptor yL_removeHost.desc).map (fun d => d.parameters.length) = some 3 := ⟨zin_at 166 (by decide +kernel) (by decide +kernel), zin_at 1120 (by decide +kernel) (by decide +kernel), by decide, by decide +kernel⟩
theorem zch_L_removeRule : zIn (.initialized yL_removeRule.cls) ∧ zIn (.codeWith yL_removeRule cL_removeRule 4 (some .int) [(0, 9, 12, 18)]) ∧ (yL_removeRule.cls ≠ "java/lang/invoke/MethodHandle" ∧ yL_removeRule.cls ≠ "java/lang/invoke/VarHandle") ∧ (parseMethodDescriptor yL_removeRule.desc).map (fun d => d.parameters.length) = some 3 := ⟨zin_at 166 (by decide +kernel) (by decide +kernel), zin_at 1156 (by decide +kernel) (by decide +kernel), by decide, by decide +kernel⟩
theorem zch_L_rule : zIn (.initialized yL_rule.cls) ∧ zIn (.codeWith yL_rule cL_rule 5 (some .int) [(0, 10, 13, 18)]) ∧ (yL_rule.cls ≠ "java/lang/invoke/MethodHandle" ∧ yL_rule.cls ≠ "java/lang/invoke/VarHandle") ∧ (parseMethodDescriptor yL_rule.desc).map (fun d => d.parameters.length) = some 4 := ⟨zin_at 166 (by decide +kernel) (by decide +kernel), zin_at 1059 (by decide +kernel) (by decide +kernel), by decide, by decide +kernel⟩
theorem zch_L_setKeep : zIn (.initialized yL_setKeep.cls) ∧ zIn (.codeWith yL_setKeep cL_setKeep 4 (some .int) [(0, 9, 12, 13)]) ∧ (yL_setKeep.cls ≠ "java/lang/invoke/MethodHandle" ∧ yL_setKeep.cls ≠ "java/lang/invoke/VarHandle") ∧ (parseMethodDescriptor yL_setKeep.desc).map (fun d => d.parameters.length) = some 3 := ⟨zin_at 166 (by decide +kernel) (by decide +kernel), zin_at 1167 (by decide +kernel) (by decide +kernel), by decide, by decide +kernel⟩
theorem zch_L_setPinned : zIn (.initialized yL_setPinned.cls) ∧ zIn (.codeWith yL_setPinned cL_setPinned 5 (some .int) [(0, 10, 13, 18)]) ∧ (yL_setPinned.cls ≠ "java/lang/invoke/MethodHandle" ∧ yL_setPinned.cls ≠ "java/lang/invoke/VarHandle") ∧ (parseMethodDescriptor yL_setPinned.desc).map (fun d => d.parameters.length) = some 4 := ⟨zin_at 166 (by decide +kernel) (by decide +kernel), zin_at 1174 (by decide +kernel) (by decide +kernel), by decide, by decide +kernel⟩
theorem zch_L_size : zIn (.initialized yL_size.cls) ∧ zIn (.codeWith yL_size cL_size 4 (some .int) [(0, 9, 12, 18)]) ∧ (yL_size.cls ≠ "java/lang/invoke/MethodHandle" ∧ yL_size.cls ≠ "java/lang/invoke/VarHandle") ∧ (parseMethodDescriptor yL_size.desc).map (fun d => d.parameters.length) = some 3 := ⟨zin_at 166 (by decide +kernel) (by decide +kernel), zin_at 970 (by decide +kernel) (by decide +kernel), by decide, by decide +kernel⟩
theorem zch_L_unplan : zIn (.initialized yL_unplan.cls) ∧ zIn (.codeWith yL_unplan cL_unplan 4 (some .int) [(0, 9, 12, 18)]) ∧ (yL_unplan.cls ≠ "java/lang/invoke/MethodHandle" ∧ yL_unplan.cls ≠ "java/lang/invoke/VarHandle") ∧ (parseMethodDescriptor yL_unplan.desc).map (fun d => d.parameters.length) = some 3 := ⟨zin_at 166 (by decide +kernel) (by decide +kernel), zin_at 1138 (by decide +kernel) (by decide +kernel), by decide, by decide +kernel⟩
theorem zc_X7_back : zCl yX7_back cX7_back 1 (some .int) 0 := ⟨zin_at 167 (by decide +kernel) (by decide +kernel), zin_at 674 (by decide +kernel) (by decide +kernel), by decide, by decide +kernel⟩
theorem zc_X7_close : zCl yX7_close cX7_close 1 (some .int) 0 := ⟨zin_at 167 (by decide +kernel) (by decide +kernel), zin_at 694 (by decide +kernel) (by decide +kernel), by decide, by decide +kernel⟩
theorem zc_X7_conflict : zCl yX7_conflict cX7_conflict 2 (some .int) 0 := ⟨zin_at 167 (by decide +kernel) (by decide +kernel), zin_at 582 (by decide +kernel) (by decide +kernel), by decide, by decide +kernel⟩
theorem zc_X7_errorPosition : zCl yX7_errorPosition cX7_errorPosition 1 (some .int) 0 := ⟨zin_at 167 (by decide +kernel) (by decide +kernel), zin_at 491 (by decide +kernel) (by decide +kernel), by decide, by decide +kernel⟩
theorem zc_X7_feed : zCl yX7_feed cX7_feed 6 (some .int) 5 := ⟨zin_at 167 (by decide +kernel) (by decide +kernel), zin_at 483 (by decide +kernel) (by decide +kernel), by decide, by decide +kernel⟩
theorem zc_X7_formattedByte : zCl yX7_formattedByte cX7_formattedByte 2 (some .int) 1 := ⟨zin_at 167 (by decide +kernel) (by decide +kernel), zin_at 702 (by decide +kernel) (by decide +kernel), by decide, by decide +kernel⟩
theorem zc_X7_freeNumber : zCl yX7_freeNumber cX7_freeNumber 2 (some .int) 0 := ⟨zin_at 167 (by decide +kernel) (by decide +kernel), zin_at 495 (by decide +kernel) (by decide +kernel), by decide, by decide +kernel⟩
theorem zc_X7_meanReach : zCl yX7_meanReach cX7_meanReach 3 (some .double) 0 := ⟨zin_at 167 (by decide +kernel) (by decide +kernel), zin_at 614 (by decide +kernel) (by decide +kernel), by decide, by decide +kernel⟩
theorem zc_X7_movedShare : zCl yX7_movedShare cX7_movedShare 1 (some .float) 0 := ⟨zin_at 167 (by decide +kernel) (by decide +kernel), zin_at 606 (by decide +kernel) (by decide +kernel), by decide, by decide +kernel⟩
theorem zc_X7_open : zCl yX7_open cX7_open 1 (some .int) 0 := ⟨zin_at 167 (by decide +kernel) (by decide +kernel), zin_at 690 (by decide +kernel) (by decide +kernel), by decide, by decide +kernel⟩
theorem zc_X7_openIn : zCl yX7_openIn cX7_openIn 2 (some .int) 0 := ⟨zin_at 167 (by decide +kernel) (by decide +kernel), zin_at 594 (by decide +kernel) (by decide +kernel), by decide, by decide +kernel⟩
theorem zc_X7_restoreSnapshot : zCl yX7_restoreSnapshot cX7_restoreSnapshot 1 (some .boolean) 0 := ⟨zin_at 167 (by decide +kernel) (by decide +kernel), zin_at 726 (by decide +kernel) (by decide +kernel), by decide, by decide +kernel⟩
theorem zc_X7_rewrites : zCl yX7_rewrites cX7_rewrites 1 (some .int) 0 := ⟨zin_at 167 (by decide +kernel) (by decide +kernel), zin_at 586 (by decide +kernel) (by decide +kernel), by decide, by decide +kernel⟩
theorem zc_X7_saveSnapshot : zCl yX7_saveSnapshot cX7_saveSnapshot 1 none 0 := ⟨zin_at 167 (by decide +kernel) (by decide +kernel), zin_at 722 (by decide +kernel) (by decide +kernel), by decide, by decide +kernel⟩
theorem zc_X7_settle : zCl yX7_settle cX7_settle 6 (some .int) 0 := ⟨zin_at 167 (by decide +kernel) (by decide +kernel), zin_at 634 (by decide +kernel) (by decide +kernel), by decide, by decide +kernel⟩
theorem zc_X7_undo : zCl yX7_undo cX7_undo 1 (some .int) 0 := ⟨zin_at 167 (by decide +kernel) (by decide +kernel), zin_at 714 (by decide +kernel) (by decide +kernel), by decide, by decide +kernel⟩
theorem zc_X7_undoCount : zCl yX7_undoCount cX7_undoCount 1 (some .int) 0 := ⟨zin_at 167 (by decide +kernel) (by decide +kernel), zin_at 710 (by decide +kernel) (by decide +kernel), by decide, by decide +kernel⟩
theorem zc_X7_wave : zCl yX7_wave cX7_wave 2 (some .int) 0 := ⟨zin_at 167 (by decide +kernel) (by decide +kernel), zin_at 666 (by decide +kernel) (by decide +kernel), by decide, by decide +kernel⟩
theorem zc_X7_whyNot : zCl yX7_whyNot cX7_whyNot 1 (some .int) 0 := ⟨zin_at 167 (by decide +kernel) (by decide +kernel), zin_at 528 (by decide +kernel) (by decide +kernel), by decide, by decide +kernel⟩
theorem zc_X8_addHost : zCl yX8_addHost cX8_addHost 5 (some .int) 2 := ⟨zin_at 175 (by decide +kernel) (by decide +kernel), zin_at 1745 (by decide +kernel) (by decide +kernel), by decide, by decide +kernel⟩
theorem zc_X8_addRule : zCl yX8_addRule cX8_addRule 6 (some .int) 4 := ⟨zin_at 175 (by decide +kernel) (by decide +kernel), zin_at 1805 (by decide +kernel) (by decide +kernel), by decide, by decide +kernel⟩
theorem zc_X8_allows : zCl yX8_allows cX8_allows 4 (some .boolean) 3 := ⟨zin_at 175 (by decide +kernel) (by decide +kernel), zin_at 1645 (by decide +kernel) (by decide +kernel), by decide, by decide +kernel⟩
theorem zc_X8_back : zCl yX8_back cX8_back 1 (some .int) 0 := ⟨zin_at 175 (by decide +kernel) (by decide +kernel), zin_at 1789 (by decide +kernel) (by decide +kernel), by decide, by decide +kernel⟩
theorem zc_X8_clash : zCl yX8_clash cX8_clash 4 (some .int) 1 := ⟨zin_at 175 (by decide +kernel) (by decide +kernel), zin_at 1609 (by decide +kernel) (by decide +kernel), by decide, by decide +kernel⟩
theorem zc_X8_clashesIn : zCl yX8_clashesIn cX8_clashesIn 4 (some .int) 1 := ⟨zin_at 175 (by decide +kernel) (by decide +kernel), zin_at 1729 (by decide +kernel) (by decide +kernel), by decide, by decide +kernel⟩
theorem zc_X8_close : zCl yX8_close cX8_close 3 (some .int) 0 := ⟨zin_at 175 (by decide +kernel) (by decide +kernel), zin_at 1801 (by decide +kernel) (by decide +kernel), by decide, by decide +kernel⟩
theorem zc_X8_conflict : zCl yX8_conflict cX8_conflict 2 (some .int) 0 := ⟨zin_at 175 (by decide +kernel) (by decide +kernel), zin_at 1721 (by decide +kernel) (by decide +kernel), by decide, by decide +kernel⟩
theorem zc_X8_decides : zCl yX8_decides cX8_decides 4 (some .int) 3 := ⟨zin_at 175 (by decide +kernel) (by decide +kernel), zin_at 1629 (by decide +kernel) (by decide +kernel), by decide, by decide +kernel⟩
theorem zc_X8_errorPosition : zCl yX8_errorPosition cX8_errorPosition 1 (some .int) 0 := ⟨zin_at 175 (by decide +kernel) (by decide +kernel), zin_at 1410 (by decide +kernel) (by decide +kernel), by decide, by decide +kernel⟩
theorem zc_X8_feed : zCl yX8_feed cX8_feed 6 (some .int) 5 := ⟨zin_at 175 (by decide +kernel) (by decide +kernel), zin_at 1402 (by decide +kernel) (by decide +kernel), by decide, by decide +kernel⟩
theorem zc_X8_format : zCl yX8_format cX8_format 3 (some .int) 1 := ⟨zin_at 175 (by decide +kernel) (by decide +kernel), zin_at 1840 (by decide +kernel) (by decide +kernel), by decide, by decide +kernel⟩
theorem zc_X8_formattedByte : zCl yX8_formattedByte cX8_formattedByte 2 (some .int) 1 := ⟨zin_at 175 (by decide +kernel) (by decide +kernel), zin_at 1852 (by decide +kernel) (by decide +kernel), by decide, by decide +kernel⟩
theorem zc_X8_freeNumber : zCl yX8_freeNumber cX8_freeNumber 1 (some .int) 0 := ⟨zin_at 175 (by decide +kernel) (by decide +kernel), zin_at 1665 (by decide +kernel) (by decide +kernel), by decide, by decide +kernel⟩
theorem zc_X8_holder : zCl yX8_holder cX8_holder 3 (some .int) 2 := ⟨zin_at 175 (by decide +kernel) (by decide +kernel), zin_at 1599 (by decide +kernel) (by decide +kernel), by decide, by decide +kernel⟩
theorem zc_X8_host : zCl yX8_host cX8_host 3 (some .int) 2 := ⟨zin_at 175 (by decide +kernel) (by decide +kernel), zin_at 1586 (by decide +kernel) (by decide +kernel), by decide, by decide +kernel⟩
theorem zc_X8_load : zCl yX8_load cX8_load 2 (some .int) 1 := ⟨zin_at 175 (by decide +kernel) (by decide +kernel), zin_at 1414 (by decide +kernel) (by decide +kernel), by decide, by decide +kernel⟩
theorem zc_X8_meanReach : zCl yX8_meanReach cX8_meanReach 3 (some .double) 0 := ⟨zin_at 175 (by decide +kernel) (by decide +kernel), zin_at 1741 (by decide +kernel) (by decide +kernel), by decide, by decide +kernel⟩
theorem zc_X8_movedShare : zCl yX8_movedShare cX8_movedShare 3 (some .float) 0 := ⟨zin_at 175 (by decide +kernel) (by decide +kernel), zin_at 1737 (by decide +kernel) (by decide +kernel), by decide, by decide +kernel⟩
theorem zc_X8_name : zCl yX8_name cX8_name 3 (some .int) 2 := ⟨zin_at 175 (by decide +kernel) (by decide +kernel), zin_at 1595 (by decide +kernel) (by decide +kernel), by decide, by decide +kernel⟩
theorem zc_X8_open : zCl yX8_open cX8_open 1 (some .int) 0 := ⟨zin_at 175 (by decide +kernel) (by decide +kernel), zin_at 1797 (by decide +kernel) (by decide +kernel), by decide, by decide +kernel⟩
theorem zc_X8_openIn : zCl yX8_openIn cX8_openIn 3 (some .int) 0 := ⟨zin_at 175 (by decide +kernel) (by decide +kernel), zin_at 1733 (by decide +kernel) (by decide +kernel), by decide, by decide +kernel⟩
theorem zc_X8_plan : zCl yX8_plan cX8_plan 4 (some .int) 3 := ⟨zin_at 175 (by decide +kernel) (by decide +kernel), zin_at 1761 (by decide +kernel) (by decide +kernel), by decide, by decide +kernel⟩
theorem zc_X8_plans : zCl yX8_plans cX8_plans 2 (some .int) 1 := ⟨zin_at 175 (by decide +kernel) (by decide +kernel), zin_at 1613 (by decide +kernel) (by decide +kernel), by decide, by decide +kernel⟩
theorem zc_X8_query : zCl yX8_query cX8_query 5 (some .int) 1 := ⟨zin_at 175 (by decide +kernel) (by decide +kernel), zin_at 1856 (by decide +kernel) (by decide +kernel), by decide, by decide +kernel⟩
theorem zc_X8_reach : zCl yX8_reach cX8_reach 2 (some .int) 1 := ⟨zin_at 175 (by decide +kernel) (by decide +kernel), zin_at 1653 (by decide +kernel) (by decide +kernel), by decide, by decide +kernel⟩
theorem zc_X8_removeHost : zCl yX8_removeHost cX8_removeHost 3 (some .int) 1 := ⟨zin_at 175 (by decide +kernel) (by decide +kernel), zin_at 1757 (by decide +kernel) (by decide +kernel), by decide, by decide +kernel⟩
theorem zc_X8_removeRule : zCl yX8_removeRule cX8_removeRule 3 (some .int) 1 := ⟨zin_at 175 (by decide +kernel) (by decide +kernel), zin_at 1812 (by decide +kernel) (by decide +kernel), by decide, by decide +kernel⟩
theorem zc_X8_restoreSnapshot : zCl yX8_restoreSnapshot cX8_restoreSnapshot 1 (some .boolean) 0 := ⟨zin_at 175 (by decide +kernel) (by decide +kernel), zin_at 1836 (by decide +kernel) (by decide +kernel), by decide, by decide +kernel⟩
theorem zc_X8_rewrites : zCl yX8_rewrites cX8_rewrites 2 (some .int) 0 := ⟨zin_at 175 (by decide +kernel) (by decide +kernel), zin_at 1725 (by decide +kernel) (by decide +kernel), by decide, by decide +kernel⟩
theorem zc_X8_rule : zCl yX8_rule cX8_rule 3 (some .int) 2 := ⟨zin_at 175 (by decide +kernel) (by decide +kernel), zin_at 1620 (by decide +kernel) (by decide +kernel), by decide, by decide +kernel⟩
theorem zc_X8_saveSnapshot : zCl yX8_saveSnapshot cX8_saveSnapshot 1 none 0 := ⟨zin_at 175 (by decide +kernel) (by decide +kernel), zin_at 1832 (by decide +kernel) (by decide +kernel), by decide, by decide +kernel⟩
theorem zc_X8_setKeep : zCl yX8_setKeep cX8_setKeep 3 (some .int) 1 := ⟨zin_at 175 (by decide +kernel) (by decide +kernel), zin_at 1816 (by decide +kernel) (by decide +kernel), by decide, by decide +kernel⟩
theorem zc_X8_setPinned : zCl yX8_setPinned cX8_setPinned 4 (some .int) 2 := ⟨zin_at 175 (by decide +kernel) (by decide +kernel), zin_at 1820 (by decide +kernel) (by decide +kernel), by decide, by decide +kernel⟩
theorem zc_X8_settle : zCl yX8_settle cX8_settle 6 (some .int) 0 := ⟨zin_at 175 (by decide +kernel) (by decide +kernel), zin_at 1773 (by decide +kernel) (by decide +kernel), by decide, by decide +kernel⟩
theorem zc_X8_size : zCl yX8_size cX8_size 2 (some .int) 1 := ⟨zin_at 175 (by decide +kernel) (by decide +kernel), zin_at 1541 (by decide +kernel) (by decide +kernel), by decide, by decide +kernel⟩
theorem zc_X8_thrown : zCl yX8_thrown cX8_thrown 1 (some .int) 0 := ⟨zin_at 175 (by decide +kernel) (by decide +kernel), zin_at 1297 (by decide +kernel) (by decide +kernel), by decide, by decide +kernel⟩
theorem zc_X8_undo : zCl yX8_undo cX8_undo 1 (some .int) 0 := ⟨zin_at 175 (by decide +kernel) (by decide +kernel), zin_at 1828 (by decide +kernel) (by decide +kernel), by decide, by decide +kernel⟩
theorem zc_X8_undoCount : zCl yX8_undoCount cX8_undoCount 1 (some .int) 0 := ⟨zin_at 175 (by decide +kernel) (by decide +kernel), zin_at 1824 (by decide +kernel) (by decide +kernel), by decide, by decide +kernel⟩
theorem zc_X8_unplan : zCl yX8_unplan cX8_unplan 3 (some .int) 1 := ⟨zin_at 175 (by decide +kernel) (by decide +kernel), zin_at 1765 (by decide +kernel) (by decide +kernel), by decide, by decide +kernel⟩
theorem zc_X8_wave : zCl yX8_wave cX8_wave 2 (some .int) 0 := ⟨zin_at 175 (by decide +kernel) (by decide +kernel), zin_at 1785 (by decide +kernel) (by decide +kernel), by decide, by decide +kernel⟩
theorem zc_X8_whyNot : zCl yX8_whyNot cX8_whyNot 2 (some .int) 0 := ⟨zin_at 175 (by decide +kernel) (by decide +kernel), zin_at 1677 (by decide +kernel) (by decide +kernel), by decide, by decide +kernel⟩
def zScr (a : ZC) (b : Nat) (L : Int) (sc : Int → Int) : Prop := match a with
  | ((p, l, e, s, m, args, below, meth, c), E, N) => ∃ (xs : Nat → Int32) (L0 : Nat), L = L0 ∧ va_X b L0 xs s s.heap ∧ b < s.heap.size ∧ b < E.2.2.2 ∧ ∀ i, 0 ≤ i → i < L → sc i = (xs i.toNat).toInt
section ZSC
variable {l0 : Launch} {a : ZC} {M : ZM} {cc : ByteArray} {own : String} {mL : Nat} {ret : Option FieldType} {mn : Nat} {tb : List (Nat × Nat × Nat × Nat)} {k n pc : Nat} {ls : List (Option AV)} {st : List AV} {h : Hp}
theorem zV_sld (O : zOk l0 a cc own mL ret mn tb) {b : Nat} {L : Int} {sc : Int → Int} {i : Int} (hS : zScr a b L sc) (hin : 0 ≤ i ∧ i < L) (hd : decode cc pc = .ok (.iaload, 1)) (kk : zV a M k n (pc + 1) ls (aI (sc i) :: st) h) : zV a M k n pc ls (aI i :: aA (b + 1) :: st) h := by
  obtain ⟨⟨p, l, e, s, m, args, below, meth, c⟩, E, N⟩ := a
  obtain ⟨hx, hb, hml, hr, ho, hlk, hK, hAD, hN, hex, hl0⟩ := O
  obtain ⟨xs, L0, rfl, hX, hbl, hbE, hsc⟩ := hS
  intro cs cl hh H locs la hP hS hL
  have ci : zr i := cs (aI i) (by simp)
  have e1 := hsc i hin.1 hin.2
  have hz : zr (sc i) := by rw [e1]; exact zr_I _
  refine va_sld hx hb hX hbl (by show ¬ E.2.2.2 ≤ b; omega) hS (zI_in ci hin) hd ?_
  rw [zI_cl ci hin.1]
  have k2 := kk (fun v hv => (List.mem_cons.mp hv).elim (fun e => e ▸ hz) (fun hv => cs v (List.mem_cons_of_mem _ (List.mem_cons_of_mem _ hv)))) cl hh H locs la hP hS hL
  rw [List.map_cons, show cv E (aI (sc i)) = .int (Int32.ofInt (sc i)) from rfl, e1, show Int32.ofInt ((xs i.toNat).toInt) = xs i.toNat from Int32.ofInt_toInt _] at k2
  exact k2
theorem zV_slen' (O : zOk l0 a cc own mL ret mn tb) {b : Nat} {L : Int} {sc : Int → Int} (hS : zScr a b L sc) (hz : zr L) (hd : decode cc pc = .ok (.arraylength, 1)) (kk : zV a M k n (pc + 1) ls (aI L :: st) h) : zV a M k n pc ls (aA (b + 1) :: st) h := by
  obtain ⟨⟨p, l, e, s, m, args, below, meth, c⟩, E, N⟩ := a
  obtain ⟨hx, hb, hml, hr, ho, hlk, hK, hAD, hN, hex, hl0⟩ := O
  obtain ⟨xs, L0, rfl, hX, hbl, hbE, hsc⟩ := hS
  intro cs cl hh H locs la hP hS hL
  refine va_slen hx hb hX hbl (by show ¬ E.2.2.2 ≤ b; omega) hS hd ?_
  have k2 := kk (fun v hv => (List.mem_cons.mp hv).elim (fun e => e ▸ hz) (fun hv => cs v (List.mem_cons_of_mem _ hv))) cl hh H locs la hP hS hL
  exact k2
end ZSC
theorem zlc_eq {x y : Int} (h : x = y) : zlcmp x y = 0 := by
  unfold zlcmp
  rw [h, if_neg (Int.lt_irrefl y), if_pos rfl]
def tqd (n : Nat) : Bool := Nat.all n fun a _ => Nat.all n fun b _ => decide (b = 0) || decide (FP.f2d (FP.fdiv (FP.i2f (Int32.ofInt (a : Int))) (FP.i2f (Int32.ofInt (b : Int)))) &&& 0x7fffffffffffffff ≤ 0x7ff0000000000000)
theorem tqd_ok : tqd 41 = true := by decide +kernel
theorem nn_fd {a b : Int} (ha : 0 ≤ a ∧ a ≤ 40) (hb : 1 ≤ b ∧ b ≤ 40) : vf_n64 (FP.f2d (FP.fdiv (FP.i2f (Int32.ofInt a)) (FP.i2f (Int32.ofInt b)))) := by
  have h1 := natAll (p := fun a => Nat.all 41 fun b _ => decide (b = 0) || decide (FP.f2d (FP.fdiv (FP.i2f (Int32.ofInt (a : Int))) (FP.i2f (Int32.ofInt (b : Int)))) &&& 0x7fffffffffffffff ≤ 0x7ff0000000000000)) tqd_ok (a := a.toNat) (by omega)
  have h2 := natAll (p := fun b => decide (b = 0) || decide (FP.f2d (FP.fdiv (FP.i2f (Int32.ofInt (a.toNat : Int))) (FP.i2f (Int32.ofInt (b : Int)))) &&& 0x7fffffffffffffff ≤ 0x7ff0000000000000)) h1 (a := b.toNat) (by omega)
  have e1 : ((a.toNat : Nat) : Int) = a := by omega
  have e2 : ((b.toNat : Nat) : Int) = b := by omega
  simp only [e1, e2] at h2
  rcases Bool.or_eq_true_iff.mp h2 with q | q
  · have := of_decide_eq_true q
    omega
  · unfold vf_n64
    exact of_decide_eq_true q
theorem c_movedShare2 {h : Hp} (hi : inv h) : mX7_movedShare h (fun z => vf_n64 (FP.f2d z) ∧ mX8_movedShare h (fun b h2 => okF z b h2)) := by
  obtain ⟨⟨n, o⟩, -⟩ := id hi
  have o1 := o.1.1
  unfold okR at o1
  have hc := cn_r (fun i => decide (0 < lat (rd h 186) i)) (b := rd h 186 0) 0 o1.1.1
  unfold mX7_movedShare
  rw [n.1.1]
  refine ⟨fun c => p3_movedCount n o.1 ⟨nn_f ⟨hc.1, by omega⟩ ⟨by omega, by omega⟩, nn_fd ⟨hc.1, by omega⟩ ⟨by omega, by omega⟩, p8_movedShare rfl o.1.1 ⟨fun d => absurd d c, fun _ => ⟨inv_t hi, rfl⟩⟩⟩, fun c => ⟨by unfold vf_n64; decide, p8_movedShare rfl o.1.1 ⟨fun _ => ⟨inv_t hi, rfl⟩, fun d => absurd c d⟩⟩⟩
theorem zScr_zr {a : ZC} {b : Nat} {L : Int} {sc : Int → Int} (hS : zScr a b L sc) : ∀ i : Int, 0 ≤ i ∧ i < L → zr (sc i) := by
  obtain ⟨⟨p, l, e, s, m, args, below, meth, c⟩, E, N⟩ := a
  obtain ⟨xs, L0, rfl, hX, hbl, hbE, hsc⟩ := hS
  intro i hi
  rw [hsc i hi.1 hi.2]
  exact zr_I _
theorem zV_aloadS {l0 : Launch} {a : ZC} {M : ZM} {cc : ByteArray} {own : String} {mL : Nat} {ret : Option FieldType} {mn : Nat} {tb : List (Nat × Nat × Nat × Nat)} {k n pc : Nat} {ls : List (Option AV)} {st : List AV} {h : Hp} (O : zOk l0 a cc own mL ret mn tb) {j : Fin 4} {i : Nat} {z : Nat}
    (hd : decode cc pc = .ok (.aload_n j, 1)) (hi : (j : Nat) = i) (hl : ls[i]? = some (some (aA (z + 1)))) (kk : zV a M k n (pc + 1) ls (aA (z + 1) :: st) h) : zV a M k n pc ls st h := by
  obtain ⟨⟨p, l, e, s, m, args, below, meth, c⟩, E, N⟩ := a
  obtain ⟨hx, hb, hml, hr, ho, hlk, hK, hAD, hN, hex, hl0⟩ := O
  intro cs cl hh H locs la hP hS hL
  exact lv_aload_n hx hb hd hi (zL_get hL hl) (kk (fun v hv => (List.mem_cons.mp hv).elim (fun e => e ▸ trivial) (cs v)) cl hh H locs la hP hS hL)
