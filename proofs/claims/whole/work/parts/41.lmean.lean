/-! The law: its words at each site, what each case means, lstep: one call of each side, and none where they differ. -/
set_option maxRecDepth 20000 in
theorem kl_L_284 : Cond.constantLong RL 284 (4294967295 : Int64) ∈ gT := gm 2082 (by decide +kernel) rfl
set_option maxRecDepth 20000 in
theorem mv_L_100 : MV RL 100 12 yX12_waits cX12_waits 2 (some .int) 1 := ⟨⟨gm 1772 (by decide +kernel) rfl, gm 1775 (by decide +kernel) rfl, gm 14 (by decide +kernel) rfl, by decide +kernel, by decide +kernel, by decide +kernel⟩, by decide, ⟨TX12, rfl⟩, gm 1773 (by decide +kernel) rfl, gm 1774 (by decide +kernel) rfl⟩
set_option maxRecDepth 20000 in
theorem mv_L_101 : MV RL 101 11 yX11_undo cX11_undo 1 (some .int) 0 := ⟨⟨gm 807 (by decide +kernel) rfl, gm 810 (by decide +kernel) rfl, gm 1 (by decide +kernel) rfl, by decide +kernel, by decide +kernel, by decide +kernel⟩, by decide, ⟨TX11, rfl⟩, gm 808 (by decide +kernel) rfl, gm 809 (by decide +kernel) rfl⟩
set_option maxRecDepth 20000 in
theorem mv_L_104 : MV RL 104 12 yX12_undo cX12_undo 1 (some .int) 0 := ⟨⟨gm 1777 (by decide +kernel) rfl, gm 1780 (by decide +kernel) rfl, gm 14 (by decide +kernel) rfl, by decide +kernel, by decide +kernel, by decide +kernel⟩, by decide, ⟨TX12, rfl⟩, gm 1778 (by decide +kernel) rfl, gm 1779 (by decide +kernel) rfl⟩
set_option maxRecDepth 20000 in
theorem mv_L_105 : MV RL 105 11 yX11_anew cX11_anew 2 (some .int) 0 := ⟨⟨gm 811 (by decide +kernel) rfl, gm 814 (by decide +kernel) rfl, gm 1 (by decide +kernel) rfl, by decide +kernel, by decide +kernel, by decide +kernel⟩, by decide, ⟨TX11, rfl⟩, gm 812 (by decide +kernel) rfl, gm 813 (by decide +kernel) rfl⟩
set_option maxRecDepth 20000 in
theorem mv_L_108 : MV RL 108 12 yX12_anew cX12_anew 2 (some .int) 0 := ⟨⟨gm 1781 (by decide +kernel) rfl, gm 1784 (by decide +kernel) rfl, gm 14 (by decide +kernel) rfl, by decide +kernel, by decide +kernel, by decide +kernel⟩, by decide, ⟨TX12, rfl⟩, gm 1782 (by decide +kernel) rfl, gm 1783 (by decide +kernel) rfl⟩
set_option maxRecDepth 20000 in
theorem mv_L_109 : MV RL 109 11 yX11_led cX11_led 2 (some .int) 1 := ⟨⟨gm 815 (by decide +kernel) rfl, gm 818 (by decide +kernel) rfl, gm 1 (by decide +kernel) rfl, by decide +kernel, by decide +kernel, by decide +kernel⟩, by decide, ⟨TX11, rfl⟩, gm 816 (by decide +kernel) rfl, gm 817 (by decide +kernel) rfl⟩
set_option maxRecDepth 20000 in
theorem mv_L_112 : MV RL 112 12 yX12_led cX12_led 2 (some .int) 1 := ⟨⟨gm 1785 (by decide +kernel) rfl, gm 1788 (by decide +kernel) rfl, gm 14 (by decide +kernel) rfl, by decide +kernel, by decide +kernel, by decide +kernel⟩, by decide, ⟨TX12, rfl⟩, gm 1786 (by decide +kernel) rfl, gm 1787 (by decide +kernel) rfl⟩
set_option maxRecDepth 20000 in
theorem mv_L_113 : MV RL 113 11 yX11_shoes cX11_shoes 1 (some .int) 0 := ⟨⟨gm 819 (by decide +kernel) rfl, gm 822 (by decide +kernel) rfl, gm 1 (by decide +kernel) rfl, by decide +kernel, by decide +kernel, by decide +kernel⟩, by decide, ⟨TX11, rfl⟩, gm 820 (by decide +kernel) rfl, gm 821 (by decide +kernel) rfl⟩
set_option maxRecDepth 20000 in
theorem mv_L_116 : MV RL 116 12 yX12_shoes cX12_shoes 1 (some .int) 0 := ⟨⟨gm 1789 (by decide +kernel) rfl, gm 1792 (by decide +kernel) rfl, gm 14 (by decide +kernel) rfl, by decide +kernel, by decide +kernel, by decide +kernel⟩, by decide, ⟨TX12, rfl⟩, gm 1790 (by decide +kernel) rfl, gm 1791 (by decide +kernel) rfl⟩
set_option maxRecDepth 20000 in
theorem mv_L_117 : MV RL 117 11 yX11_paid cX11_paid 1 (some .int) 0 := ⟨⟨gm 823 (by decide +kernel) rfl, gm 826 (by decide +kernel) rfl, gm 1 (by decide +kernel) rfl, by decide +kernel, by decide +kernel, by decide +kernel⟩, by decide, ⟨TX11, rfl⟩, gm 824 (by decide +kernel) rfl, gm 825 (by decide +kernel) rfl⟩
set_option maxRecDepth 20000 in
theorem mv_L_120 : MV RL 120 12 yX12_paid cX12_paid 1 (some .int) 0 := ⟨⟨gm 1793 (by decide +kernel) rfl, gm 1796 (by decide +kernel) rfl, gm 14 (by decide +kernel) rfl, by decide +kernel, by decide +kernel, by decide +kernel⟩, by decide, ⟨TX12, rfl⟩, gm 1794 (by decide +kernel) rfl, gm 1795 (by decide +kernel) rfl⟩
set_option maxRecDepth 20000 in
theorem mv_L_121 : MV RL 121 11 yX11_done cX11_done 1 (some .int) 0 := ⟨⟨gm 827 (by decide +kernel) rfl, gm 830 (by decide +kernel) rfl, gm 1 (by decide +kernel) rfl, by decide +kernel, by decide +kernel, by decide +kernel⟩, by decide, ⟨TX11, rfl⟩, gm 828 (by decide +kernel) rfl, gm 829 (by decide +kernel) rfl⟩
set_option maxRecDepth 20000 in
theorem mv_L_124 : MV RL 124 12 yX12_done cX12_done 1 (some .int) 0 := ⟨⟨gm 1797 (by decide +kernel) rfl, gm 1800 (by decide +kernel) rfl, gm 14 (by decide +kernel) rfl, by decide +kernel, by decide +kernel, by decide +kernel⟩, by decide, ⟨TX12, rfl⟩, gm 1798 (by decide +kernel) rfl, gm 1799 (by decide +kernel) rfl⟩
set_option maxRecDepth 20000 in
theorem mv_L_125 : MV RL 125 11 yX11_soonest cX11_soonest 1 (some .int) 0 := ⟨⟨gm 836 (by decide +kernel) rfl, gm 839 (by decide +kernel) rfl, gm 1 (by decide +kernel) rfl, by decide +kernel, by decide +kernel, by decide +kernel⟩, by decide, ⟨TX11, rfl⟩, gm 837 (by decide +kernel) rfl, gm 838 (by decide +kernel) rfl⟩
set_option maxRecDepth 20000 in
theorem mv_L_128 : MV RL 128 12 yX12_soonest cX12_soonest 1 (some .int) 0 := ⟨⟨gm 1805 (by decide +kernel) rfl, gm 1808 (by decide +kernel) rfl, gm 14 (by decide +kernel) rfl, by decide +kernel, by decide +kernel, by decide +kernel⟩, by decide, ⟨TX12, rfl⟩, gm 1806 (by decide +kernel) rfl, gm 1807 (by decide +kernel) rfl⟩
set_option maxRecDepth 20000 in
theorem mv_L_129 : MV RL 129 11 yX11_step cX11_step 2 (some .int) 1 := ⟨⟨gm 897 (by decide +kernel) rfl, gm 900 (by decide +kernel) rfl, gm 1 (by decide +kernel) rfl, by decide +kernel, by decide +kernel, by decide +kernel⟩, by decide, ⟨TX11, rfl⟩, gm 898 (by decide +kernel) rfl, gm 899 (by decide +kernel) rfl⟩
set_option maxRecDepth 20000 in
theorem mv_L_13 : MV RL 13 11 yX11_feed cX11_feed 6 (some .int) 5 := ⟨⟨gm 434 (by decide +kernel) rfl, gm 437 (by decide +kernel) rfl, gm 1 (by decide +kernel) rfl, by decide +kernel, by decide +kernel, by decide +kernel⟩, by decide, ⟨TX11, rfl⟩, gm 435 (by decide +kernel) rfl, gm 436 (by decide +kernel) rfl⟩
set_option maxRecDepth 20000 in
theorem mv_L_132 : MV RL 132 12 yX12_step cX12_step 2 (some .int) 1 := ⟨⟨gm 1833 (by decide +kernel) rfl, gm 1836 (by decide +kernel) rfl, gm 14 (by decide +kernel) rfl, by decide +kernel, by decide +kernel, by decide +kernel⟩, by decide, ⟨TX12, rfl⟩, gm 1834 (by decide +kernel) rfl, gm 1835 (by decide +kernel) rfl⟩
set_option maxRecDepth 20000 in
theorem mv_L_133 : MV RL 133 11 yX11_fewest cX11_fewest 1 (some .int) 0 := ⟨⟨gm 905 (by decide +kernel) rfl, gm 908 (by decide +kernel) rfl, gm 1 (by decide +kernel) rfl, by decide +kernel, by decide +kernel, by decide +kernel⟩, by decide, ⟨TX11, rfl⟩, gm 906 (by decide +kernel) rfl, gm 907 (by decide +kernel) rfl⟩
set_option maxRecDepth 20000 in
theorem mv_L_136 : MV RL 136 12 yX12_fewest cX12_fewest 1 (some .int) 0 := ⟨⟨gm 1841 (by decide +kernel) rfl, gm 1844 (by decide +kernel) rfl, gm 14 (by decide +kernel) rfl, by decide +kernel, by decide +kernel, by decide +kernel⟩, by decide, ⟨TX12, rfl⟩, gm 1842 (by decide +kernel) rfl, gm 1843 (by decide +kernel) rfl⟩
set_option maxRecDepth 20000 in
theorem mv_L_137 : MV RL 137 11 yX11_least cX11_least 1 (some .int) 0 := ⟨⟨gm 913 (by decide +kernel) rfl, gm 916 (by decide +kernel) rfl, gm 1 (by decide +kernel) rfl, by decide +kernel, by decide +kernel, by decide +kernel⟩, by decide, ⟨TX11, rfl⟩, gm 914 (by decide +kernel) rfl, gm 915 (by decide +kernel) rfl⟩
set_option maxRecDepth 20000 in
theorem mv_L_140 : MV RL 140 12 yX12_least cX12_least 1 (some .int) 0 := ⟨⟨gm 1845 (by decide +kernel) rfl, gm 1848 (by decide +kernel) rfl, gm 14 (by decide +kernel) rfl, by decide +kernel, by decide +kernel, by decide +kernel⟩, by decide, ⟨TX12, rfl⟩, gm 1846 (by decide +kernel) rfl, gm 1847 (by decide +kernel) rfl⟩
set_option maxRecDepth 20000 in
theorem mv_L_141 : MV RL 141 11 yX11_tread cX11_tread 2 (some .int) 1 := ⟨⟨gm 917 (by decide +kernel) rfl, gm 920 (by decide +kernel) rfl, gm 1 (by decide +kernel) rfl, by decide +kernel, by decide +kernel, by decide +kernel⟩, by decide, ⟨TX11, rfl⟩, gm 918 (by decide +kernel) rfl, gm 919 (by decide +kernel) rfl⟩
set_option maxRecDepth 20000 in
theorem mv_L_144 : MV RL 144 12 yX12_tread cX12_tread 2 (some .int) 1 := ⟨⟨gm 1849 (by decide +kernel) rfl, gm 1852 (by decide +kernel) rfl, gm 14 (by decide +kernel) rfl, by decide +kernel, by decide +kernel, by decide +kernel⟩, by decide, ⟨TX12, rfl⟩, gm 1850 (by decide +kernel) rfl, gm 1851 (by decide +kernel) rfl⟩
set_option maxRecDepth 20000 in
theorem mv_L_145 : MV RL 145 11 yX11_cheapest cX11_cheapest 1 (some .int) 0 := ⟨⟨gm 921 (by decide +kernel) rfl, gm 924 (by decide +kernel) rfl, gm 1 (by decide +kernel) rfl, by decide +kernel, by decide +kernel, by decide +kernel⟩, by decide, ⟨TX11, rfl⟩, gm 922 (by decide +kernel) rfl, gm 923 (by decide +kernel) rfl⟩
set_option maxRecDepth 20000 in
theorem mv_L_148 : MV RL 148 12 yX12_cheapest cX12_cheapest 1 (some .int) 0 := ⟨⟨gm 1853 (by decide +kernel) rfl, gm 1856 (by decide +kernel) rfl, gm 14 (by decide +kernel) rfl, by decide +kernel, by decide +kernel, by decide +kernel⟩, by decide, ⟨TX12, rfl⟩, gm 1854 (by decide +kernel) rfl, gm 1855 (by decide +kernel) rfl⟩
set_option maxRecDepth 20000 in
theorem mv_L_149 : MV RL 149 11 yX11_whom cX11_whom 1 (some .int) 0 := ⟨⟨gm 925 (by decide +kernel) rfl, gm 928 (by decide +kernel) rfl, gm 1 (by decide +kernel) rfl, by decide +kernel, by decide +kernel, by decide +kernel⟩, by decide, ⟨TX11, rfl⟩, gm 926 (by decide +kernel) rfl, gm 927 (by decide +kernel) rfl⟩
set_option maxRecDepth 20000 in
theorem mv_L_152 : MV RL 152 12 yX12_whom cX12_whom 3 (some .int) 0 := ⟨⟨gm 1857 (by decide +kernel) rfl, gm 1860 (by decide +kernel) rfl, gm 14 (by decide +kernel) rfl, by decide +kernel, by decide +kernel, by decide +kernel⟩, by decide, ⟨TX12, rfl⟩, gm 1858 (by decide +kernel) rfl, gm 1859 (by decide +kernel) rfl⟩
set_option maxRecDepth 20000 in
theorem mv_L_153 : MV RL 153 11 yX11_ways cX11_ways 1 (some .int) 0 := ⟨⟨gm 933 (by decide +kernel) rfl, gm 936 (by decide +kernel) rfl, gm 1 (by decide +kernel) rfl, by decide +kernel, by decide +kernel, by decide +kernel⟩, by decide, ⟨TX11, rfl⟩, gm 934 (by decide +kernel) rfl, gm 935 (by decide +kernel) rfl⟩
set_option maxRecDepth 20000 in
theorem mv_L_156 : MV RL 156 12 yX12_ways cX12_ways 1 (some .int) 0 := ⟨⟨gm 1861 (by decide +kernel) rfl, gm 1864 (by decide +kernel) rfl, gm 14 (by decide +kernel) rfl, by decide +kernel, by decide +kernel, by decide +kernel⟩, by decide, ⟨TX12, rfl⟩, gm 1862 (by decide +kernel) rfl, gm 1863 (by decide +kernel) rfl⟩
set_option maxRecDepth 20000 in
theorem mv_L_157 : MV RL 157 11 yX11_always cX11_always 2 (some .int) 1 := ⟨⟨gm 937 (by decide +kernel) rfl, gm 940 (by decide +kernel) rfl, gm 1 (by decide +kernel) rfl, by decide +kernel, by decide +kernel, by decide +kernel⟩, by decide, ⟨TX11, rfl⟩, gm 938 (by decide +kernel) rfl, gm 939 (by decide +kernel) rfl⟩
set_option maxRecDepth 20000 in
theorem mv_L_160 : MV RL 160 12 yX12_always cX12_always 2 (some .int) 1 := ⟨⟨gm 1865 (by decide +kernel) rfl, gm 1868 (by decide +kernel) rfl, gm 14 (by decide +kernel) rfl, by decide +kernel, by decide +kernel, by decide +kernel⟩, by decide, ⟨TX12, rfl⟩, gm 1866 (by decide +kernel) rfl, gm 1867 (by decide +kernel) rfl⟩
set_option maxRecDepth 20000 in
theorem mv_L_161 : MV RL 161 11 yX11_slack cX11_slack 2 (some .int) 1 := ⟨⟨gm 941 (by decide +kernel) rfl, gm 944 (by decide +kernel) rfl, gm 1 (by decide +kernel) rfl, by decide +kernel, by decide +kernel, by decide +kernel⟩, by decide, ⟨TX11, rfl⟩, gm 942 (by decide +kernel) rfl, gm 943 (by decide +kernel) rfl⟩
set_option maxRecDepth 20000 in
theorem mv_L_164 : MV RL 164 12 yX12_slack cX12_slack 4 (some .int) 1 := ⟨⟨gm 1869 (by decide +kernel) rfl, gm 1872 (by decide +kernel) rfl, gm 14 (by decide +kernel) rfl, by decide +kernel, by decide +kernel, by decide +kernel⟩, by decide, ⟨TX12, rfl⟩, gm 1870 (by decide +kernel) rfl, gm 1871 (by decide +kernel) rfl⟩
set_option maxRecDepth 20000 in
theorem mv_L_165 : MV RL 165 11 yX11_start cX11_start 2 (some .int) 1 := ⟨⟨gm 950 (by decide +kernel) rfl, gm 953 (by decide +kernel) rfl, gm 1 (by decide +kernel) rfl, by decide +kernel, by decide +kernel, by decide +kernel⟩, by decide, ⟨TX11, rfl⟩, gm 951 (by decide +kernel) rfl, gm 952 (by decide +kernel) rfl⟩
set_option maxRecDepth 20000 in
theorem mv_L_168 : MV RL 168 12 yX12_start cX12_start 2 (some .int) 1 := ⟨⟨gm 1873 (by decide +kernel) rfl, gm 1876 (by decide +kernel) rfl, gm 14 (by decide +kernel) rfl, by decide +kernel, by decide +kernel, by decide +kernel⟩, by decide, ⟨TX12, rfl⟩, gm 1874 (by decide +kernel) rfl, gm 1875 (by decide +kernel) rfl⟩
set_option maxRecDepth 20000 in
theorem mv_L_169 : MV RL 169 11 yX11_forged cX11_forged 2 (some .int) 1 := ⟨⟨gm 958 (by decide +kernel) rfl, gm 961 (by decide +kernel) rfl, gm 1 (by decide +kernel) rfl, by decide +kernel, by decide +kernel, by decide +kernel⟩, by decide, ⟨TX11, rfl⟩, gm 959 (by decide +kernel) rfl, gm 960 (by decide +kernel) rfl⟩
set_option maxRecDepth 20000 in
theorem mv_L_17 : MV RL 17 12 yX12_feed cX12_feed 6 (some .int) 5 := ⟨⟨gm 1491 (by decide +kernel) rfl, gm 1494 (by decide +kernel) rfl, gm 14 (by decide +kernel) rfl, by decide +kernel, by decide +kernel, by decide +kernel⟩, by decide, ⟨TX12, rfl⟩, gm 1492 (by decide +kernel) rfl, gm 1493 (by decide +kernel) rfl⟩
set_option maxRecDepth 20000 in
theorem mv_L_172 : MV RL 172 12 yX12_forged cX12_forged 2 (some .int) 1 := ⟨⟨gm 1881 (by decide +kernel) rfl, gm 1884 (by decide +kernel) rfl, gm 14 (by decide +kernel) rfl, by decide +kernel, by decide +kernel, by decide +kernel⟩, by decide, ⟨TX12, rfl⟩, gm 1882 (by decide +kernel) rfl, gm 1883 (by decide +kernel) rfl⟩
set_option maxRecDepth 20000 in
theorem mv_L_173 : MV RL 173 11 yX11_fake cX11_fake 6 (some .int) 0 := ⟨⟨gm 966 (by decide +kernel) rfl, gm 969 (by decide +kernel) rfl, gm 1 (by decide +kernel) rfl, by decide +kernel, by decide +kernel, by decide +kernel⟩, by decide, ⟨TX11, rfl⟩, gm 967 (by decide +kernel) rfl, gm 968 (by decide +kernel) rfl⟩
set_option maxRecDepth 20000 in
theorem mv_L_176 : MV RL 176 12 yX12_fake cX12_fake 5 (some .int) 0 := ⟨⟨gm 1889 (by decide +kernel) rfl, gm 1892 (by decide +kernel) rfl, gm 14 (by decide +kernel) rfl, by decide +kernel, by decide +kernel, by decide +kernel⟩, by decide, ⟨TX12, rfl⟩, gm 1890 (by decide +kernel) rfl, gm 1891 (by decide +kernel) rfl⟩
set_option maxRecDepth 20000 in
theorem mv_L_177 : MV RL 177 11 yX11_possible cX11_possible 2 (some .int) 1 := ⟨⟨gm 970 (by decide +kernel) rfl, gm 973 (by decide +kernel) rfl, gm 1 (by decide +kernel) rfl, by decide +kernel, by decide +kernel, by decide +kernel⟩, by decide, ⟨TX11, rfl⟩, gm 971 (by decide +kernel) rfl, gm 972 (by decide +kernel) rfl⟩
set_option maxRecDepth 20000 in
theorem mv_L_18 : MV RL 18 11 yX11_end cX11_end 2 (some .int) 1 := ⟨⟨gm 442 (by decide +kernel) rfl, gm 445 (by decide +kernel) rfl, gm 1 (by decide +kernel) rfl, by decide +kernel, by decide +kernel, by decide +kernel⟩, by decide, ⟨TX11, rfl⟩, gm 443 (by decide +kernel) rfl, gm 444 (by decide +kernel) rfl⟩
set_option maxRecDepth 20000 in
theorem mv_L_180 : MV RL 180 12 yX12_possible cX12_possible 2 (some .int) 1 := ⟨⟨gm 1893 (by decide +kernel) rfl, gm 1896 (by decide +kernel) rfl, gm 14 (by decide +kernel) rfl, by decide +kernel, by decide +kernel, by decide +kernel⟩, by decide, ⟨TX12, rfl⟩, gm 1894 (by decide +kernel) rfl, gm 1895 (by decide +kernel) rfl⟩
set_option maxRecDepth 20000 in
theorem mv_L_181 : MV RL 181 11 yX11_sets cX11_sets 1 (some .int) 0 := ⟨⟨gm 997 (by decide +kernel) rfl, gm 1000 (by decide +kernel) rfl, gm 1 (by decide +kernel) rfl, by decide +kernel, by decide +kernel, by decide +kernel⟩, by decide, ⟨TX11, rfl⟩, gm 998 (by decide +kernel) rfl, gm 999 (by decide +kernel) rfl⟩
set_option maxRecDepth 20000 in
theorem mv_L_184 : MV RL 184 12 yX12_sets cX12_sets 3 (some .int) 0 := ⟨⟨gm 1913 (by decide +kernel) rfl, gm 1916 (by decide +kernel) rfl, gm 14 (by decide +kernel) rfl, by decide +kernel, by decide +kernel, by decide +kernel⟩, by decide, ⟨TX12, rfl⟩, gm 1914 (by decide +kernel) rfl, gm 1915 (by decide +kernel) rfl⟩
set_option maxRecDepth 20000 in
theorem mv_L_185 : MV RL 185 11 yX11_never cX11_never 1 (some .int) 0 := ⟨⟨gm 1005 (by decide +kernel) rfl, gm 1008 (by decide +kernel) rfl, gm 1 (by decide +kernel) rfl, by decide +kernel, by decide +kernel, by decide +kernel⟩, by decide, ⟨TX11, rfl⟩, gm 1006 (by decide +kernel) rfl, gm 1007 (by decide +kernel) rfl⟩
set_option maxRecDepth 20000 in
theorem mv_L_188 : MV RL 188 12 yX12_never cX12_never 3 (some .int) 0 := ⟨⟨gm 1917 (by decide +kernel) rfl, gm 1920 (by decide +kernel) rfl, gm 14 (by decide +kernel) rfl, by decide +kernel, by decide +kernel, by decide +kernel⟩, by decide, ⟨TX12, rfl⟩, gm 1918 (by decide +kernel) rfl, gm 1919 (by decide +kernel) rfl⟩
set_option maxRecDepth 20000 in
theorem mv_L_189 : MV RL 189 11 yX11_ring cX11_ring 1 (some .int) 0 := ⟨⟨gm 1013 (by decide +kernel) rfl, gm 1016 (by decide +kernel) rfl, gm 1 (by decide +kernel) rfl, by decide +kernel, by decide +kernel, by decide +kernel⟩, by decide, ⟨TX11, rfl⟩, gm 1014 (by decide +kernel) rfl, gm 1015 (by decide +kernel) rfl⟩
set_option maxRecDepth 20000 in
theorem mv_L_192 : MV RL 192 12 yX12_ring cX12_ring 1 (some .int) 0 := ⟨⟨gm 1921 (by decide +kernel) rfl, gm 1924 (by decide +kernel) rfl, gm 14 (by decide +kernel) rfl, by decide +kernel, by decide +kernel, by decide +kernel⟩, by decide, ⟨TX12, rfl⟩, gm 1922 (by decide +kernel) rfl, gm 1923 (by decide +kernel) rfl⟩
set_option maxRecDepth 20000 in
theorem mv_L_193 : MV RL 193 11 yX11_depth cX11_depth 2 (some .int) 1 := ⟨⟨gm 1026 (by decide +kernel) rfl, gm 1029 (by decide +kernel) rfl, gm 1 (by decide +kernel) rfl, by decide +kernel, by decide +kernel, by decide +kernel⟩, by decide, ⟨TX11, rfl⟩, gm 1027 (by decide +kernel) rfl, gm 1028 (by decide +kernel) rfl⟩
set_option maxRecDepth 20000 in
theorem mv_L_196 : MV RL 196 12 yX12_depth cX12_depth 3 (some .int) 1 := ⟨⟨gm 1933 (by decide +kernel) rfl, gm 1936 (by decide +kernel) rfl, gm 14 (by decide +kernel) rfl, by decide +kernel, by decide +kernel, by decide +kernel⟩, by decide, ⟨TX12, rfl⟩, gm 1934 (by decide +kernel) rfl, gm 1935 (by decide +kernel) rfl⟩
set_option maxRecDepth 20000 in
theorem mv_L_197 : MV RL 197 11 yX11_orders cX11_orders 2 (some .long) 1 := ⟨⟨gm 1041 (by decide +kernel) rfl, gm 1044 (by decide +kernel) rfl, gm 1 (by decide +kernel) rfl, by decide +kernel, by decide +kernel, by decide +kernel⟩, by decide, ⟨TX11, rfl⟩, gm 1042 (by decide +kernel) rfl, gm 1043 (by decide +kernel) rfl⟩
set_option maxRecDepth 20000 in
theorem mv_L_201 : MV RL 201 12 yX12_orders cX12_orders 2 (some .long) 1 := ⟨⟨gm 1941 (by decide +kernel) rfl, gm 1944 (by decide +kernel) rfl, gm 14 (by decide +kernel) rfl, by decide +kernel, by decide +kernel, by decide +kernel⟩, by decide, ⟨TX12, rfl⟩, gm 1942 (by decide +kernel) rfl, gm 1943 (by decide +kernel) rfl⟩
set_option maxRecDepth 20000 in
theorem mv_L_202 : MV RL 202 11 yX11_loose cX11_loose 1 (some .int) 0 := ⟨⟨gm 1046 (by decide +kernel) rfl, gm 1049 (by decide +kernel) rfl, gm 1 (by decide +kernel) rfl, by decide +kernel, by decide +kernel, by decide +kernel⟩, by decide, ⟨TX11, rfl⟩, gm 1047 (by decide +kernel) rfl, gm 1048 (by decide +kernel) rfl⟩
set_option maxRecDepth 20000 in
theorem mv_L_205 : MV RL 205 12 yX12_loose cX12_loose 1 (some .int) 0 := ⟨⟨gm 1946 (by decide +kernel) rfl, gm 1949 (by decide +kernel) rfl, gm 14 (by decide +kernel) rfl, by decide +kernel, by decide +kernel, by decide +kernel⟩, by decide, ⟨TX12, rfl⟩, gm 1947 (by decide +kernel) rfl, gm 1948 (by decide +kernel) rfl⟩
set_option maxRecDepth 20000 in
theorem mv_L_206 : MV RL 206 11 yX11_loosely cX11_loosely 2 (some .int) 1 := ⟨⟨gm 1064 (by decide +kernel) rfl, gm 1067 (by decide +kernel) rfl, gm 1 (by decide +kernel) rfl, by decide +kernel, by decide +kernel, by decide +kernel⟩, by decide, ⟨TX11, rfl⟩, gm 1065 (by decide +kernel) rfl, gm 1066 (by decide +kernel) rfl⟩
set_option maxRecDepth 20000 in
theorem mv_L_209 : MV RL 209 12 yX12_loosely cX12_loosely 5 (some .int) 1 := ⟨⟨gm 1961 (by decide +kernel) rfl, gm 1964 (by decide +kernel) rfl, gm 14 (by decide +kernel) rfl, by decide +kernel, by decide +kernel, by decide +kernel⟩, by decide, ⟨TX12, rfl⟩, gm 1962 (by decide +kernel) rfl, gm 1963 (by decide +kernel) rfl⟩
set_option maxRecDepth 20000 in
theorem mv_L_210 : MV RL 210 11 yX11_parted cX11_parted 1 (some .int) 0 := ⟨⟨gm 1072 (by decide +kernel) rfl, gm 1075 (by decide +kernel) rfl, gm 1 (by decide +kernel) rfl, by decide +kernel, by decide +kernel, by decide +kernel⟩, by decide, ⟨TX11, rfl⟩, gm 1073 (by decide +kernel) rfl, gm 1074 (by decide +kernel) rfl⟩
set_option maxRecDepth 20000 in
theorem mv_L_213 : MV RL 213 12 yX12_parted cX12_parted 4 (some .int) 0 := ⟨⟨gm 1965 (by decide +kernel) rfl, gm 1968 (by decide +kernel) rfl, gm 14 (by decide +kernel) rfl, by decide +kernel, by decide +kernel, by decide +kernel⟩, by decide, ⟨TX12, rfl⟩, gm 1966 (by decide +kernel) rfl, gm 1967 (by decide +kernel) rfl⟩
set_option maxRecDepth 20000 in
theorem mv_L_214 : MV RL 214 11 yX11_judge cX11_judge 6 (some .int) 1 := ⟨⟨gm 1092 (by decide +kernel) rfl, gm 1095 (by decide +kernel) rfl, gm 1 (by decide +kernel) rfl, by decide +kernel, by decide +kernel, by decide +kernel⟩, by decide, ⟨TX11, rfl⟩, gm 1093 (by decide +kernel) rfl, gm 1094 (by decide +kernel) rfl⟩
set_option maxRecDepth 20000 in
theorem mv_L_217 : MV RL 217 12 yX12_judge cX12_judge 6 (some .int) 1 := ⟨⟨gm 1977 (by decide +kernel) rfl, gm 1980 (by decide +kernel) rfl, gm 14 (by decide +kernel) rfl, by decide +kernel, by decide +kernel, by decide +kernel⟩, by decide, ⟨TX12, rfl⟩, gm 1978 (by decide +kernel) rfl, gm 1979 (by decide +kernel) rfl⟩
set_option maxRecDepth 20000 in
theorem mv_L_218 : MV RL 218 11 yX11_bribed cX11_bribed 7 (some .int) 1 := ⟨⟨gm 1127 (by decide +kernel) rfl, gm 1130 (by decide +kernel) rfl, gm 1 (by decide +kernel) rfl, by decide +kernel, by decide +kernel, by decide +kernel⟩, by decide, ⟨TX11, rfl⟩, gm 1128 (by decide +kernel) rfl, gm 1129 (by decide +kernel) rfl⟩
set_option maxRecDepth 20000 in
theorem mv_L_22 : MV RL 22 12 yX12_end cX12_end 2 (some .int) 1 := ⟨⟨gm 1499 (by decide +kernel) rfl, gm 1502 (by decide +kernel) rfl, gm 14 (by decide +kernel) rfl, by decide +kernel, by decide +kernel, by decide +kernel⟩, by decide, ⟨TX12, rfl⟩, gm 1500 (by decide +kernel) rfl, gm 1501 (by decide +kernel) rfl⟩
set_option maxRecDepth 20000 in
theorem mv_L_221 : MV RL 221 12 yX12_bribed cX12_bribed 7 (some .int) 1 := ⟨⟨gm 1989 (by decide +kernel) rfl, gm 1992 (by decide +kernel) rfl, gm 14 (by decide +kernel) rfl, by decide +kernel, by decide +kernel, by decide +kernel⟩, by decide, ⟨TX12, rfl⟩, gm 1990 (by decide +kernel) rfl, gm 1991 (by decide +kernel) rfl⟩
set_option maxRecDepth 20000 in
theorem mv_L_222 : MV RL 222 11 yX11_run cX11_run 3 (some .int) 1 := ⟨⟨gm 1131 (by decide +kernel) rfl, gm 1134 (by decide +kernel) rfl, gm 1 (by decide +kernel) rfl, by decide +kernel, by decide +kernel, by decide +kernel⟩, by decide, ⟨TX11, rfl⟩, gm 1132 (by decide +kernel) rfl, gm 1133 (by decide +kernel) rfl⟩
set_option maxRecDepth 20000 in
theorem mv_L_225 : MV RL 225 12 yX12_run cX12_run 3 (some .int) 1 := ⟨⟨gm 1993 (by decide +kernel) rfl, gm 1996 (by decide +kernel) rfl, gm 14 (by decide +kernel) rfl, by decide +kernel, by decide +kernel, by decide +kernel⟩, by decide, ⟨TX12, rfl⟩, gm 1994 (by decide +kernel) rfl, gm 1995 (by decide +kernel) rfl⟩
set_option maxRecDepth 20000 in
theorem mv_L_226 : MV RL 226 11 yX11_queue cX11_queue 4 (some .int) 2 := ⟨⟨gm 1168 (by decide +kernel) rfl, gm 1171 (by decide +kernel) rfl, gm 1 (by decide +kernel) rfl, by decide +kernel, by decide +kernel, by decide +kernel⟩, by decide, ⟨TX11, rfl⟩, gm 1169 (by decide +kernel) rfl, gm 1170 (by decide +kernel) rfl⟩
set_option maxRecDepth 20000 in
theorem mv_L_229 : MV RL 229 12 yX12_queue cX12_queue 4 (some .int) 2 := ⟨⟨gm 2001 (by decide +kernel) rfl, gm 2004 (by decide +kernel) rfl, gm 14 (by decide +kernel) rfl, by decide +kernel, by decide +kernel, by decide +kernel⟩, by decide, ⟨TX12, rfl⟩, gm 2002 (by decide +kernel) rfl, gm 2003 (by decide +kernel) rfl⟩
set_option maxRecDepth 20000 in
theorem mv_L_23 : MV RL 23 11 yX11_office cX11_office 1 (some .int) 0 := ⟨⟨gm 446 (by decide +kernel) rfl, gm 449 (by decide +kernel) rfl, gm 1 (by decide +kernel) rfl, by decide +kernel, by decide +kernel, by decide +kernel⟩, by decide, ⟨TX11, rfl⟩, gm 447 (by decide +kernel) rfl, gm 448 (by decide +kernel) rfl⟩
set_option maxRecDepth 20000 in
theorem mv_L_230 : MV RL 230 11 yX11_served cX11_served 4 (some .int) 2 := ⟨⟨gm 1172 (by decide +kernel) rfl, gm 1175 (by decide +kernel) rfl, gm 1 (by decide +kernel) rfl, by decide +kernel, by decide +kernel, by decide +kernel⟩, by decide, ⟨TX11, rfl⟩, gm 1173 (by decide +kernel) rfl, gm 1174 (by decide +kernel) rfl⟩
set_option maxRecDepth 20000 in
theorem mv_L_233 : MV RL 233 12 yX12_served cX12_served 6 (some .int) 2 := ⟨⟨gm 2014 (by decide +kernel) rfl, gm 2017 (by decide +kernel) rfl, gm 14 (by decide +kernel) rfl, by decide +kernel, by decide +kernel, by decide +kernel⟩, by decide, ⟨TX12, rfl⟩, gm 2015 (by decide +kernel) rfl, gm 2016 (by decide +kernel) rfl⟩
set_option maxRecDepth 20000 in
theorem mv_L_234 : MV RL 234 11 yX11_chair cX11_chair 3 (some .int) 1 := ⟨⟨gm 1180 (by decide +kernel) rfl, gm 1183 (by decide +kernel) rfl, gm 1 (by decide +kernel) rfl, by decide +kernel, by decide +kernel, by decide +kernel⟩, by decide, ⟨TX11, rfl⟩, gm 1181 (by decide +kernel) rfl, gm 1182 (by decide +kernel) rfl⟩
set_option maxRecDepth 20000 in
theorem mv_L_237 : MV RL 237 12 yX12_chair cX12_chair 7 (some .int) 1 := ⟨⟨gm 2019 (by decide +kernel) rfl, gm 2022 (by decide +kernel) rfl, gm 14 (by decide +kernel) rfl, by decide +kernel, by decide +kernel, by decide +kernel⟩, by decide, ⟨TX12, rfl⟩, gm 2020 (by decide +kernel) rfl, gm 2021 (by decide +kernel) rfl⟩
set_option maxRecDepth 20000 in
theorem mv_L_238 : MV RL 238 11 yX11_blind cX11_blind 2 (some .int) 1 := ⟨⟨gm 1188 (by decide +kernel) rfl, gm 1191 (by decide +kernel) rfl, gm 1 (by decide +kernel) rfl, by decide +kernel, by decide +kernel, by decide +kernel⟩, by decide, ⟨TX11, rfl⟩, gm 1189 (by decide +kernel) rfl, gm 1190 (by decide +kernel) rfl⟩
set_option maxRecDepth 20000 in
theorem mv_L_241 : MV RL 241 12 yX12_blind cX12_blind 2 (some .int) 1 := ⟨⟨gm 2023 (by decide +kernel) rfl, gm 2026 (by decide +kernel) rfl, gm 14 (by decide +kernel) rfl, by decide +kernel, by decide +kernel, by decide +kernel⟩, by decide, ⟨TX12, rfl⟩, gm 2024 (by decide +kernel) rfl, gm 2025 (by decide +kernel) rfl⟩
set_option maxRecDepth 20000 in
theorem mv_L_242 : MV RL 242 11 yX11_tries cX11_tries 2 (some .int) 1 := ⟨⟨gm 1219 (by decide +kernel) rfl, gm 1222 (by decide +kernel) rfl, gm 1 (by decide +kernel) rfl, by decide +kernel, by decide +kernel, by decide +kernel⟩, by decide, ⟨TX11, rfl⟩, gm 1220 (by decide +kernel) rfl, gm 1221 (by decide +kernel) rfl⟩
set_option maxRecDepth 20000 in
theorem mv_L_245 : MV RL 245 12 yX12_tries cX12_tries 2 (some .int) 1 := ⟨⟨gm 2040 (by decide +kernel) rfl, gm 2043 (by decide +kernel) rfl, gm 14 (by decide +kernel) rfl, by decide +kernel, by decide +kernel, by decide +kernel⟩, by decide, ⟨TX12, rfl⟩, gm 2041 (by decide +kernel) rfl, gm 2042 (by decide +kernel) rfl⟩
set_option maxRecDepth 20000 in
theorem mv_L_246 : MV RL 246 11 yX11_luck cX11_luck 5 (some .int) 2 := ⟨⟨gm 1223 (by decide +kernel) rfl, gm 1226 (by decide +kernel) rfl, gm 1 (by decide +kernel) rfl, by decide +kernel, by decide +kernel, by decide +kernel⟩, by decide, ⟨TX11, rfl⟩, gm 1224 (by decide +kernel) rfl, gm 1225 (by decide +kernel) rfl⟩
set_option maxRecDepth 20000 in
theorem mv_L_249 : MV RL 249 12 yX12_luck cX12_luck 5 (some .int) 2 := ⟨⟨gm 2044 (by decide +kernel) rfl, gm 2047 (by decide +kernel) rfl, gm 14 (by decide +kernel) rfl, by decide +kernel, by decide +kernel, by decide +kernel⟩, by decide, ⟨TX12, rfl⟩, gm 2045 (by decide +kernel) rfl, gm 2046 (by decide +kernel) rfl⟩
set_option maxRecDepth 20000 in
theorem mv_L_250 : MV RL 250 11 yX11_worth cX11_worth 8 (some .int) 3 := ⟨⟨gm 1227 (by decide +kernel) rfl, gm 1230 (by decide +kernel) rfl, gm 1 (by decide +kernel) rfl, by decide +kernel, by decide +kernel, by decide +kernel⟩, by decide, ⟨TX11, rfl⟩, gm 1228 (by decide +kernel) rfl, gm 1229 (by decide +kernel) rfl⟩
set_option maxRecDepth 20000 in
theorem mv_L_254 : MV RL 254 12 yX12_worth cX12_worth 9 (some .int) 3 := ⟨⟨gm 2049 (by decide +kernel) rfl, gm 2052 (by decide +kernel) rfl, gm 14 (by decide +kernel) rfl, by decide +kernel, by decide +kernel, by decide +kernel⟩, by decide, ⟨TX12, rfl⟩, gm 2050 (by decide +kernel) rfl, gm 2051 (by decide +kernel) rfl⟩
set_option maxRecDepth 20000 in
theorem mv_L_255 : MV RL 255 11 yX11_ask cX11_ask 7 (some .int) 4 := ⟨⟨gm 1234 (by decide +kernel) rfl, gm 1237 (by decide +kernel) rfl, gm 1 (by decide +kernel) rfl, by decide +kernel, by decide +kernel, by decide +kernel⟩, by decide, ⟨TX11, rfl⟩, gm 1235 (by decide +kernel) rfl, gm 1236 (by decide +kernel) rfl⟩
set_option maxRecDepth 20000 in
theorem mv_L_259 : MV RL 259 12 yX12_ask cX12_ask 7 (some .int) 4 := ⟨⟨gm 2056 (by decide +kernel) rfl, gm 2059 (by decide +kernel) rfl, gm 14 (by decide +kernel) rfl, by decide +kernel, by decide +kernel, by decide +kernel⟩, by decide, ⟨TX12, rfl⟩, gm 2057 (by decide +kernel) rfl, gm 2058 (by decide +kernel) rfl⟩
set_option maxRecDepth 20000 in
theorem mv_L_260 : MV RL 260 11 yX11_leave cX11_leave 6 (some .int) 3 := ⟨⟨gm 1242 (by decide +kernel) rfl, gm 1245 (by decide +kernel) rfl, gm 1 (by decide +kernel) rfl, by decide +kernel, by decide +kernel, by decide +kernel⟩, by decide, ⟨TX11, rfl⟩, gm 1243 (by decide +kernel) rfl, gm 1244 (by decide +kernel) rfl⟩
set_option maxRecDepth 20000 in
theorem mv_L_263 : MV RL 263 12 yX12_leave cX12_leave 5 (some .int) 3 := ⟨⟨gm 2060 (by decide +kernel) rfl, gm 2063 (by decide +kernel) rfl, gm 14 (by decide +kernel) rfl, by decide +kernel, by decide +kernel, by decide +kernel⟩, by decide, ⟨TX12, rfl⟩, gm 2061 (by decide +kernel) rfl, gm 2062 (by decide +kernel) rfl⟩
set_option maxRecDepth 20000 in
theorem mv_L_264 : MV RL 264 11 yX11_wants cX11_wants 3 (some .int) 1 := ⟨⟨gm 1246 (by decide +kernel) rfl, gm 1249 (by decide +kernel) rfl, gm 1 (by decide +kernel) rfl, by decide +kernel, by decide +kernel, by decide +kernel⟩, by decide, ⟨TX11, rfl⟩, gm 1247 (by decide +kernel) rfl, gm 1248 (by decide +kernel) rfl⟩
set_option maxRecDepth 20000 in
theorem mv_L_267 : MV RL 267 12 yX12_wants cX12_wants 3 (some .int) 1 := ⟨⟨gm 2065 (by decide +kernel) rfl, gm 2068 (by decide +kernel) rfl, gm 14 (by decide +kernel) rfl, by decide +kernel, by decide +kernel, by decide +kernel⟩, by decide, ⟨TX12, rfl⟩, gm 2066 (by decide +kernel) rfl, gm 2067 (by decide +kernel) rfl⟩
set_option maxRecDepth 20000 in
theorem mv_L_268 : MV RL 268 11 yX11_count cX11_count 2 (some .int) 1 := ⟨⟨gm 1250 (by decide +kernel) rfl, gm 1253 (by decide +kernel) rfl, gm 1 (by decide +kernel) rfl, by decide +kernel, by decide +kernel, by decide +kernel⟩, by decide, ⟨TX11, rfl⟩, gm 1251 (by decide +kernel) rfl, gm 1252 (by decide +kernel) rfl⟩
set_option maxRecDepth 20000 in
theorem mv_L_27 : MV RL 27 12 yX12_office cX12_office 1 (some .int) 0 := ⟨⟨gm 1507 (by decide +kernel) rfl, gm 1510 (by decide +kernel) rfl, gm 14 (by decide +kernel) rfl, by decide +kernel, by decide +kernel, by decide +kernel⟩, by decide, ⟨TX12, rfl⟩, gm 1508 (by decide +kernel) rfl, gm 1509 (by decide +kernel) rfl⟩
set_option maxRecDepth 20000 in
theorem mv_L_271 : MV RL 271 12 yX12_count cX12_count 4 (some .int) 1 := ⟨⟨gm 2069 (by decide +kernel) rfl, gm 2072 (by decide +kernel) rfl, gm 14 (by decide +kernel) rfl, by decide +kernel, by decide +kernel, by decide +kernel⟩, by decide, ⟨TX12, rfl⟩, gm 2070 (by decide +kernel) rfl, gm 2071 (by decide +kernel) rfl⟩
set_option maxRecDepth 20000 in
theorem mv_L_272 : MV RL 272 11 yX11_keep cX11_keep 2 (some .int) 1 := ⟨⟨gm 1263 (by decide +kernel) rfl, gm 1266 (by decide +kernel) rfl, gm 1 (by decide +kernel) rfl, by decide +kernel, by decide +kernel, by decide +kernel⟩, by decide, ⟨TX11, rfl⟩, gm 1264 (by decide +kernel) rfl, gm 1265 (by decide +kernel) rfl⟩
set_option maxRecDepth 20000 in
theorem mv_L_275 : MV RL 275 12 yX12_keep cX12_keep 2 (some .int) 1 := ⟨⟨gm 2073 (by decide +kernel) rfl, gm 2076 (by decide +kernel) rfl, gm 14 (by decide +kernel) rfl, by decide +kernel, by decide +kernel, by decide +kernel⟩, by decide, ⟨TX12, rfl⟩, gm 2074 (by decide +kernel) rfl, gm 2075 (by decide +kernel) rfl⟩
set_option maxRecDepth 20000 in
theorem mv_L_276 : MV RL 276 11 yX11_back cX11_back 2 (some .int) 1 := ⟨⟨gm 1267 (by decide +kernel) rfl, gm 1270 (by decide +kernel) rfl, gm 1 (by decide +kernel) rfl, by decide +kernel, by decide +kernel, by decide +kernel⟩, by decide, ⟨TX11, rfl⟩, gm 1268 (by decide +kernel) rfl, gm 1269 (by decide +kernel) rfl⟩
set_option maxRecDepth 20000 in
theorem mv_L_279 : MV RL 279 12 yX12_back cX12_back 2 (some .int) 1 := ⟨⟨gm 2078 (by decide +kernel) rfl, gm 2081 (by decide +kernel) rfl, gm 14 (by decide +kernel) rfl, by decide +kernel, by decide +kernel, by decide +kernel⟩, by decide, ⟨TX12, rfl⟩, gm 2079 (by decide +kernel) rfl, gm 2080 (by decide +kernel) rfl⟩
set_option maxRecDepth 20000 in
theorem mv_L_28 : MV RL 28 11 yX11_fault cX11_fault 2 (some .int) 1 := ⟨⟨gm 695 (by decide +kernel) rfl, gm 698 (by decide +kernel) rfl, gm 1 (by decide +kernel) rfl, by decide +kernel, by decide +kernel, by decide +kernel⟩, by decide, ⟨TX11, rfl⟩, gm 696 (by decide +kernel) rfl, gm 697 (by decide +kernel) rfl⟩
set_option maxRecDepth 20000 in
theorem mv_L_280 : MV RL 280 11 yX11_row cX11_row 4 (some .int) 3 := ⟨⟨gm 1271 (by decide +kernel) rfl, gm 1274 (by decide +kernel) rfl, gm 1 (by decide +kernel) rfl, by decide +kernel, by decide +kernel, by decide +kernel⟩, by decide, ⟨TX11, rfl⟩, gm 1272 (by decide +kernel) rfl, gm 1273 (by decide +kernel) rfl⟩
set_option maxRecDepth 20000 in
theorem mv_L_283 : MV RL 283 12 yX12_row cX12_row 5 (some .int) 3 := ⟨⟨gm 1469 (by decide +kernel) rfl, gm 1472 (by decide +kernel) rfl, gm 14 (by decide +kernel) rfl, by decide +kernel, by decide +kernel, by decide +kernel⟩, by decide, ⟨TX12, rfl⟩, gm 1470 (by decide +kernel) rfl, gm 1471 (by decide +kernel) rfl⟩
set_option maxRecDepth 20000 in
theorem mv_L_286 : MV RL 286 11 yX11_write cX11_write 5 (some .int) 3 := ⟨⟨gm 1282 (by decide +kernel) rfl, gm 1285 (by decide +kernel) rfl, gm 1 (by decide +kernel) rfl, by decide +kernel, by decide +kernel, by decide +kernel⟩, by decide, ⟨TX11, rfl⟩, gm 1283 (by decide +kernel) rfl, gm 1284 (by decide +kernel) rfl⟩
set_option maxRecDepth 20000 in
theorem mv_L_290 : MV RL 290 12 yX12_write cX12_write 5 (some .int) 3 := ⟨⟨gm 1480 (by decide +kernel) rfl, gm 1483 (by decide +kernel) rfl, gm 14 (by decide +kernel) rfl, by decide +kernel, by decide +kernel, by decide +kernel⟩, by decide, ⟨TX12, rfl⟩, gm 1481 (by decide +kernel) rfl, gm 1482 (by decide +kernel) rfl⟩
set_option maxRecDepth 20000 in
theorem mv_L_291 : MV RL 291 11 yX11_paste cX11_paste 6 (some .int) 5 := ⟨⟨gm 1293 (by decide +kernel) rfl, gm 1296 (by decide +kernel) rfl, gm 1 (by decide +kernel) rfl, by decide +kernel, by decide +kernel, by decide +kernel⟩, by decide, ⟨TX11, rfl⟩, gm 1294 (by decide +kernel) rfl, gm 1295 (by decide +kernel) rfl⟩
set_option maxRecDepth 20000 in
theorem mv_L_294 : MV RL 294 12 yX12_paste cX12_paste 7 (some .int) 5 := ⟨⟨gm 1487 (by decide +kernel) rfl, gm 1490 (by decide +kernel) rfl, gm 14 (by decide +kernel) rfl, by decide +kernel, by decide +kernel, by decide +kernel⟩, by decide, ⟨TX12, rfl⟩, gm 1488 (by decide +kernel) rfl, gm 1489 (by decide +kernel) rfl⟩
set_option maxRecDepth 20000 in
theorem mv_L_31 : MV RL 31 12 yX12_fault cX12_fault 2 (some .int) 1 := ⟨⟨gm 1503 (by decide +kernel) rfl, gm 1506 (by decide +kernel) rfl, gm 14 (by decide +kernel) rfl, by decide +kernel, by decide +kernel, by decide +kernel⟩, by decide, ⟨TX12, rfl⟩, gm 1504 (by decide +kernel) rfl, gm 1505 (by decide +kernel) rfl⟩
set_option maxRecDepth 20000 in
theorem mv_L_32 : MV RL 32 11 yX11_official cX11_official 3 (some .int) 2 := ⟨⟨gm 699 (by decide +kernel) rfl, gm 702 (by decide +kernel) rfl, gm 1 (by decide +kernel) rfl, by decide +kernel, by decide +kernel, by decide +kernel⟩, by decide, ⟨TX11, rfl⟩, gm 700 (by decide +kernel) rfl, gm 701 (by decide +kernel) rfl⟩
set_option maxRecDepth 20000 in
theorem mv_L_36 : MV RL 36 12 yX12_official cX12_official 3 (some .int) 2 := ⟨⟨gm 1632 (by decide +kernel) rfl, gm 1635 (by decide +kernel) rfl, gm 14 (by decide +kernel) rfl, by decide +kernel, by decide +kernel, by decide +kernel⟩, by decide, ⟨TX12, rfl⟩, gm 1633 (by decide +kernel) rfl, gm 1634 (by decide +kernel) rfl⟩
set_option maxRecDepth 20000 in
theorem mv_L_37 : MV RL 37 11 yX11_asks cX11_asks 3 (some .int) 2 := ⟨⟨gm 704 (by decide +kernel) rfl, gm 707 (by decide +kernel) rfl, gm 1 (by decide +kernel) rfl, by decide +kernel, by decide +kernel, by decide +kernel⟩, by decide, ⟨TX11, rfl⟩, gm 705 (by decide +kernel) rfl, gm 706 (by decide +kernel) rfl⟩
set_option maxRecDepth 20000 in
theorem mv_L_40 : MV RL 40 12 yX12_asks_ cX12_asks_ 3 (some .int) 2 := ⟨⟨gm 1645 (by decide +kernel) rfl, gm 1648 (by decide +kernel) rfl, gm 14 (by decide +kernel) rfl, by decide +kernel, by decide +kernel, by decide +kernel⟩, by decide, ⟨TX12, rfl⟩, gm 1646 (by decide +kernel) rfl, gm 1647 (by decide +kernel) rfl⟩
set_option maxRecDepth 20000 in
theorem mv_L_41 : MV RL 41 11 yX11_asked cX11_asked 5 (some .int) 2 := ⟨⟨gm 711 (by decide +kernel) rfl, gm 714 (by decide +kernel) rfl, gm 1 (by decide +kernel) rfl, by decide +kernel, by decide +kernel, by decide +kernel⟩, by decide, ⟨TX11, rfl⟩, gm 712 (by decide +kernel) rfl, gm 713 (by decide +kernel) rfl⟩
set_option maxRecDepth 20000 in
theorem mv_L_44 : MV RL 44 12 yX12_asked cX12_asked 5 (some .int) 2 := ⟨⟨gm 1649 (by decide +kernel) rfl, gm 1652 (by decide +kernel) rfl, gm 14 (by decide +kernel) rfl, by decide +kernel, by decide +kernel, by decide +kernel⟩, by decide, ⟨TX12, rfl⟩, gm 1650 (by decide +kernel) rfl, gm 1651 (by decide +kernel) rfl⟩
set_option maxRecDepth 20000 in
theorem mv_L_45 : MV RL 45 11 yX11_open cX11_open 3 (some .int) 2 := ⟨⟨gm 716 (by decide +kernel) rfl, gm 719 (by decide +kernel) rfl, gm 1 (by decide +kernel) rfl, by decide +kernel, by decide +kernel, by decide +kernel⟩, by decide, ⟨TX11, rfl⟩, gm 717 (by decide +kernel) rfl, gm 718 (by decide +kernel) rfl⟩
set_option maxRecDepth 20000 in
theorem mv_L_48 : MV RL 48 12 yX12_open cX12_open 3 (some .int) 2 := ⟨⟨gm 1656 (by decide +kernel) rfl, gm 1659 (by decide +kernel) rfl, gm 14 (by decide +kernel) rfl, by decide +kernel, by decide +kernel, by decide +kernel⟩, by decide, ⟨TX12, rfl⟩, gm 1657 (by decide +kernel) rfl, gm 1658 (by decide +kernel) rfl⟩
set_option maxRecDepth 20000 in
theorem mv_L_49 : MV RL 49 11 yX11_opens cX11_opens 3 (some .int) 2 := ⟨⟨gm 724 (by decide +kernel) rfl, gm 727 (by decide +kernel) rfl, gm 1 (by decide +kernel) rfl, by decide +kernel, by decide +kernel, by decide +kernel⟩, by decide, ⟨TX11, rfl⟩, gm 725 (by decide +kernel) rfl, gm 726 (by decide +kernel) rfl⟩
set_option maxRecDepth 20000 in
theorem mv_L_52 : MV RL 52 12 yX12_opens cX12_opens 4 (some .int) 2 := ⟨⟨gm 1676 (by decide +kernel) rfl, gm 1679 (by decide +kernel) rfl, gm 14 (by decide +kernel) rfl, by decide +kernel, by decide +kernel, by decide +kernel⟩, by decide, ⟨TX12, rfl⟩, gm 1677 (by decide +kernel) rfl, gm 1678 (by decide +kernel) rfl⟩
set_option maxRecDepth 20000 in
theorem mv_L_53 : MV RL 53 11 yX11_week cX11_week 4 (some .int) 1 := ⟨⟨gm 729 (by decide +kernel) rfl, gm 732 (by decide +kernel) rfl, gm 1 (by decide +kernel) rfl, by decide +kernel, by decide +kernel, by decide +kernel⟩, by decide, ⟨TX11, rfl⟩, gm 730 (by decide +kernel) rfl, gm 731 (by decide +kernel) rfl⟩
set_option maxRecDepth 20000 in
theorem mv_L_56 : MV RL 56 12 yX12_week cX12_week 4 (some .int) 1 := ⟨⟨gm 1680 (by decide +kernel) rfl, gm 1683 (by decide +kernel) rfl, gm 14 (by decide +kernel) rfl, by decide +kernel, by decide +kernel, by decide +kernel⟩, by decide, ⟨TX12, rfl⟩, gm 1681 (by decide +kernel) rfl, gm 1682 (by decide +kernel) rfl⟩
set_option maxRecDepth 20000 in
theorem mv_L_57 : MV RL 57 11 yX11_walk cX11_walk 3 (some .int) 2 := ⟨⟨gm 734 (by decide +kernel) rfl, gm 737 (by decide +kernel) rfl, gm 1 (by decide +kernel) rfl, by decide +kernel, by decide +kernel, by decide +kernel⟩, by decide, ⟨TX11, rfl⟩, gm 735 (by decide +kernel) rfl, gm 736 (by decide +kernel) rfl⟩
set_option maxRecDepth 20000 in
theorem mv_L_60 : MV RL 60 12 yX12_walk cX12_walk 3 (some .int) 2 := ⟨⟨gm 1684 (by decide +kernel) rfl, gm 1687 (by decide +kernel) rfl, gm 14 (by decide +kernel) rfl, by decide +kernel, by decide +kernel, by decide +kernel⟩, by decide, ⟨TX12, rfl⟩, gm 1685 (by decide +kernel) rfl, gm 1686 (by decide +kernel) rfl⟩
set_option maxRecDepth 20000 in
theorem mv_L_61 : MV RL 61 11 yX11_permit cX11_permit 1 (some .int) 0 := ⟨⟨gm 743 (by decide +kernel) rfl, gm 746 (by decide +kernel) rfl, gm 1 (by decide +kernel) rfl, by decide +kernel, by decide +kernel, by decide +kernel⟩, by decide, ⟨TX11, rfl⟩, gm 744 (by decide +kernel) rfl, gm 745 (by decide +kernel) rfl⟩
set_option maxRecDepth 20000 in
theorem mv_L_64 : MV RL 64 12 yX12_permit cX12_permit 1 (some .int) 0 := ⟨⟨gm 1696 (by decide +kernel) rfl, gm 1699 (by decide +kernel) rfl, gm 14 (by decide +kernel) rfl, by decide +kernel, by decide +kernel, by decide +kernel⟩, by decide, ⟨TX12, rfl⟩, gm 1697 (by decide +kernel) rfl, gm 1698 (by decide +kernel) rfl⟩
set_option maxRecDepth 20000 in
theorem mv_L_65 : MV RL 65 11 yX11_now cX11_now 1 (some .int) 0 := ⟨⟨gm 751 (by decide +kernel) rfl, gm 754 (by decide +kernel) rfl, gm 1 (by decide +kernel) rfl, by decide +kernel, by decide +kernel, by decide +kernel⟩, by decide, ⟨TX11, rfl⟩, gm 752 (by decide +kernel) rfl, gm 753 (by decide +kernel) rfl⟩
set_option maxRecDepth 20000 in
theorem mv_L_68 : MV RL 68 12 yX12_now cX12_now 1 (some .int) 0 := ⟨⟨gm 1704 (by decide +kernel) rfl, gm 1707 (by decide +kernel) rfl, gm 14 (by decide +kernel) rfl, by decide +kernel, by decide +kernel, by decide +kernel⟩, by decide, ⟨TX12, rfl⟩, gm 1705 (by decide +kernel) rfl, gm 1706 (by decide +kernel) rfl⟩
set_option maxRecDepth 20000 in
theorem mv_L_69 : MV RL 69 11 yX11_room cX11_room 1 (some .int) 0 := ⟨⟨gm 755 (by decide +kernel) rfl, gm 758 (by decide +kernel) rfl, gm 1 (by decide +kernel) rfl, by decide +kernel, by decide +kernel, by decide +kernel⟩, by decide, ⟨TX11, rfl⟩, gm 756 (by decide +kernel) rfl, gm 757 (by decide +kernel) rfl⟩
set_option maxRecDepth 20000 in
theorem mv_L_72 : MV RL 72 12 yX12_room cX12_room 1 (some .int) 0 := ⟨⟨gm 1736 (by decide +kernel) rfl, gm 1739 (by decide +kernel) rfl, gm 14 (by decide +kernel) rfl, by decide +kernel, by decide +kernel, by decide +kernel⟩, by decide, ⟨TX12, rfl⟩, gm 1737 (by decide +kernel) rfl, gm 1738 (by decide +kernel) rfl⟩
set_option maxRecDepth 20000 in
theorem mv_L_73 : MV RL 73 11 yX11_held cX11_held 1 (some .int) 0 := ⟨⟨gm 759 (by decide +kernel) rfl, gm 762 (by decide +kernel) rfl, gm 1 (by decide +kernel) rfl, by decide +kernel, by decide +kernel, by decide +kernel⟩, by decide, ⟨TX11, rfl⟩, gm 760 (by decide +kernel) rfl, gm 761 (by decide +kernel) rfl⟩
set_option maxRecDepth 20000 in
theorem mv_L_76 : MV RL 76 12 yX12_held cX12_held 1 (some .int) 0 := ⟨⟨gm 1740 (by decide +kernel) rfl, gm 1743 (by decide +kernel) rfl, gm 14 (by decide +kernel) rfl, by decide +kernel, by decide +kernel, by decide +kernel⟩, by decide, ⟨TX12, rfl⟩, gm 1741 (by decide +kernel) rfl, gm 1742 (by decide +kernel) rfl⟩
set_option maxRecDepth 20000 in
theorem mv_L_77 : MV RL 77 11 yX11_until cX11_until 3 (some .int) 1 := ⟨⟨gm 767 (by decide +kernel) rfl, gm 770 (by decide +kernel) rfl, gm 1 (by decide +kernel) rfl, by decide +kernel, by decide +kernel, by decide +kernel⟩, by decide, ⟨TX11, rfl⟩, gm 768 (by decide +kernel) rfl, gm 769 (by decide +kernel) rfl⟩
set_option maxRecDepth 20000 in
theorem mv_L_80 : MV RL 80 12 yX12_until cX12_until 2 (some .int) 1 := ⟨⟨gm 1748 (by decide +kernel) rfl, gm 1751 (by decide +kernel) rfl, gm 14 (by decide +kernel) rfl, by decide +kernel, by decide +kernel, by decide +kernel⟩, by decide, ⟨TX12, rfl⟩, gm 1749 (by decide +kernel) rfl, gm 1750 (by decide +kernel) rfl⟩
set_option maxRecDepth 20000 in
theorem mv_L_81 : MV RL 81 11 yX11_when cX11_when 2 (some .int) 1 := ⟨⟨gm 774 (by decide +kernel) rfl, gm 777 (by decide +kernel) rfl, gm 1 (by decide +kernel) rfl, by decide +kernel, by decide +kernel, by decide +kernel⟩, by decide, ⟨TX11, rfl⟩, gm 775 (by decide +kernel) rfl, gm 776 (by decide +kernel) rfl⟩
set_option maxRecDepth 20000 in
theorem mv_L_84 : MV RL 84 12 yX12_when cX12_when 2 (some .int) 1 := ⟨⟨gm 1752 (by decide +kernel) rfl, gm 1755 (by decide +kernel) rfl, gm 14 (by decide +kernel) rfl, by decide +kernel, by decide +kernel, by decide +kernel⟩, by decide, ⟨TX12, rfl⟩, gm 1753 (by decide +kernel) rfl, gm 1754 (by decide +kernel) rfl⟩
set_option maxRecDepth 20000 in
theorem mv_L_85 : MV RL 85 11 yX11_why cX11_why 2 (some .int) 1 := ⟨⟨gm 778 (by decide +kernel) rfl, gm 781 (by decide +kernel) rfl, gm 1 (by decide +kernel) rfl, by decide +kernel, by decide +kernel, by decide +kernel⟩, by decide, ⟨TX11, rfl⟩, gm 779 (by decide +kernel) rfl, gm 780 (by decide +kernel) rfl⟩
set_option maxRecDepth 20000 in
theorem mv_L_88 : MV RL 88 12 yX12_why cX12_why 8 (some .int) 1 := ⟨⟨gm 1756 (by decide +kernel) rfl, gm 1759 (by decide +kernel) rfl, gm 14 (by decide +kernel) rfl, by decide +kernel, by decide +kernel, by decide +kernel⟩, by decide, ⟨TX12, rfl⟩, gm 1757 (by decide +kernel) rfl, gm 1758 (by decide +kernel) rfl⟩
set_option maxRecDepth 20000 in
theorem mv_L_89 : MV RL 89 11 yX11_can cX11_can 1 (some .int) 0 := ⟨⟨gm 787 (by decide +kernel) rfl, gm 790 (by decide +kernel) rfl, gm 1 (by decide +kernel) rfl, by decide +kernel, by decide +kernel, by decide +kernel⟩, by decide, ⟨TX11, rfl⟩, gm 788 (by decide +kernel) rfl, gm 789 (by decide +kernel) rfl⟩
set_option maxRecDepth 20000 in
theorem mv_L_92 : MV RL 92 12 yX12_can cX12_can 1 (some .int) 0 := ⟨⟨gm 1760 (by decide +kernel) rfl, gm 1763 (by decide +kernel) rfl, gm 14 (by decide +kernel) rfl, by decide +kernel, by decide +kernel, by decide +kernel⟩, by decide, ⟨TX12, rfl⟩, gm 1761 (by decide +kernel) rfl, gm 1762 (by decide +kernel) rfl⟩
set_option maxRecDepth 20000 in
theorem mv_L_93 : MV RL 93 11 yX11_go cX11_go 3 (some .int) 1 := ⟨⟨gm 795 (by decide +kernel) rfl, gm 798 (by decide +kernel) rfl, gm 1 (by decide +kernel) rfl, by decide +kernel, by decide +kernel, by decide +kernel⟩, by decide, ⟨TX11, rfl⟩, gm 796 (by decide +kernel) rfl, gm 797 (by decide +kernel) rfl⟩
set_option maxRecDepth 20000 in
theorem mv_L_96 : MV RL 96 12 yX12_go cX12_go 3 (some .int) 1 := ⟨⟨gm 1768 (by decide +kernel) rfl, gm 1771 (by decide +kernel) rfl, gm 14 (by decide +kernel) rfl, by decide +kernel, by decide +kernel, by decide +kernel⟩, by decide, ⟨TX12, rfl⟩, gm 1769 (by decide +kernel) rfl, gm 1770 (by decide +kernel) rfl⟩
set_option maxRecDepth 20000 in
theorem mv_L_97 : MV RL 97 11 yX11_waits cX11_waits 2 (some .int) 1 := ⟨⟨gm 803 (by decide +kernel) rfl, gm 806 (by decide +kernel) rfl, gm 1 (by decide +kernel) rfl, by decide +kernel, by decide +kernel, by decide +kernel⟩, by decide, ⟨TX11, rfl⟩, gm 804 (by decide +kernel) rfl, gm 805 (by decide +kernel) rfl⟩
def ls_0 (wx wm : Nat) (a1 a2 a3 a4 a5 : Int) (T : Knd) (A : Rfs) (nx : Nat) (I : Mem) : Option St := (f_X11_feed T A wx (a1) (a2) (a3) (a4) (a5) I).bind fun e1 => (f_X12_feed T A wm (a1) (a2) (a3) (a4) (a5) e1.2).bind fun e2 => if e1.1 = e2.1 then some (T, A, nx, e2.2) else none
def ls_1 (wx wm : Nat) (a1 a2 a3 a4 a5 : Int) (T : Knd) (A : Rfs) (nx : Nat) (I : Mem) : Option St := (f_X11_end T A wx (a1) I).bind fun e1 => (f_X12_end T A wm (a1) e1.2).bind fun e2 => if e1.1 = e2.1 then some (T, A, nx, e2.2) else none
def ls_2 (wx wm : Nat) (a1 a2 a3 a4 a5 : Int) (T : Knd) (A : Rfs) (nx : Nat) (I : Mem) : Option St := (f_X11_office T A wx I).bind fun e1 => (f_X12_office T A wm e1.2).bind fun e2 => if e1.1 = e2.1 then some (T, A, nx, e2.2) else none
def ls_3 (wx wm : Nat) (a1 a2 a3 a4 a5 : Int) (T : Knd) (A : Rfs) (nx : Nat) (I : Mem) : Option St := (f_X11_fault T A wx (a1) I).bind fun e1 => (f_X12_fault T A wm (a1) I).bind fun e2 => if e1 = e2.1 then some (T, A, nx, e2.2) else none
def ls_4 (wx wm : Nat) (a1 a2 a3 a4 a5 : Int) (T : Knd) (A : Rfs) (nx : Nat) (I : Mem) : Option St := (f_X11_official T A wx (a1) (a2) I).bind fun e1 => (f_X12_official T A wm (a1) (a2) I).bind fun e2 => if e1 = e2.1 then some (T, A, nx, e2.2) else none
def ls_5 (wx wm : Nat) (a1 a2 a3 a4 a5 : Int) (T : Knd) (A : Rfs) (nx : Nat) (I : Mem) : Option St := (f_X11_asks T A wx (a1) (a2) I).bind fun e1 => (f_X12_asks_ T A wm (a1) (a2) I).bind fun e2 => if e1 = e2.1 then some (T, A, nx, e2.2) else none
def ls_6 (wx wm : Nat) (a1 a2 a3 a4 a5 : Int) (T : Knd) (A : Rfs) (nx : Nat) (I : Mem) : Option St := (f_X11_asked T A wx (a1) (a2) I).bind fun e1 => (f_X12_asked T A wm (a1) (a2) I).bind fun e2 => if e1 = e2.1 then some (T, A, nx, e2.2) else none
def ls_7 (wx wm : Nat) (a1 a2 a3 a4 a5 : Int) (T : Knd) (A : Rfs) (nx : Nat) (I : Mem) : Option St := (f_X11_open T A wx (a1) (a2) I).bind fun e1 => (f_X12_open T A wm (a1) (a2) I).bind fun e2 => if e1 = e2.1 then some (T, A, nx, e2.2) else none
def ls_8 (wx wm : Nat) (a1 a2 a3 a4 a5 : Int) (T : Knd) (A : Rfs) (nx : Nat) (I : Mem) : Option St := (f_X11_opens T A wx (a1) (a2) I).bind fun e1 => (f_X12_opens T A wm (a1) (a2) I).bind fun e2 => if e1 = e2.1 then some (T, A, nx, e2.2) else none
def ls_9 (wx wm : Nat) (a1 a2 a3 a4 a5 : Int) (T : Knd) (A : Rfs) (nx : Nat) (I : Mem) : Option St := (f_X11_week T A wx (a1) I).bind fun e1 => (f_X12_week T A wm (a1) I).bind fun e2 => if e1 = e2.1 then some (T, A, nx, e2.2) else none
def ls_10 (wx wm : Nat) (a1 a2 a3 a4 a5 : Int) (T : Knd) (A : Rfs) (nx : Nat) (I : Mem) : Option St := (f_X11_walk T A wx (a1) (a2) I).bind fun e1 => (f_X12_walk T A wm (a1) (a2) I).bind fun e2 => if e1 = e2.1 then some (T, A, nx, e2.2) else none
def ls_11 (wx wm : Nat) (a1 a2 a3 a4 a5 : Int) (T : Knd) (A : Rfs) (nx : Nat) (I : Mem) : Option St := (f_X11_permit T A wx I).bind fun e1 => (f_X12_permit T A wm I).bind fun e2 => if e1 = e2.1 then some (T, A, nx, e2.2) else none
def ls_12 (wx wm : Nat) (a1 a2 a3 a4 a5 : Int) (T : Knd) (A : Rfs) (nx : Nat) (I : Mem) : Option St := (f_X11_now T A wx I).bind fun e1 => (f_X12_now T A wm I).bind fun e2 => if e1 = e2.1 then some (T, A, nx, e2.2) else none
def ls_13 (wx wm : Nat) (a1 a2 a3 a4 a5 : Int) (T : Knd) (A : Rfs) (nx : Nat) (I : Mem) : Option St := (f_X11_room T A wx I).bind fun e1 => (f_X12_room T A wm I).bind fun e2 => if e1 = e2.1 then some (T, A, nx, e2.2) else none
def ls_14 (wx wm : Nat) (a1 a2 a3 a4 a5 : Int) (T : Knd) (A : Rfs) (nx : Nat) (I : Mem) : Option St := (f_X11_held T A wx I).bind fun e1 => (f_X12_held T A wm I).bind fun e2 => if e1 = e2.1 then some (T, A, nx, e2.2) else none
def ls_15 (wx wm : Nat) (a1 a2 a3 a4 a5 : Int) (T : Knd) (A : Rfs) (nx : Nat) (I : Mem) : Option St := (f_X11_until T A wx (a1) I).bind fun e1 => (f_X12_until T A wm (a1) I).bind fun e2 => if e1 = e2.1 then some (T, A, nx, e2.2) else none
def ls_16 (wx wm : Nat) (a1 a2 a3 a4 a5 : Int) (T : Knd) (A : Rfs) (nx : Nat) (I : Mem) : Option St := (f_X11_when T A wx (a1) I).bind fun e1 => (f_X12_when T A wm (a1) I).bind fun e2 => if e1 = e2.1 then some (T, A, nx, e2.2) else none
def ls_17 (wx wm : Nat) (a1 a2 a3 a4 a5 : Int) (T : Knd) (A : Rfs) (nx : Nat) (I : Mem) : Option St := (f_X11_why T A wx (a1) I).bind fun e1 => (f_X12_why T A wm (a1) I).bind fun e2 => if e1 = e2.1 then some (T, A, nx, e2.2) else none
def ls_18 (wx wm : Nat) (a1 a2 a3 a4 a5 : Int) (T : Knd) (A : Rfs) (nx : Nat) (I : Mem) : Option St := (f_X11_can T A wx I).bind fun e1 => (f_X12_can T A wm I).bind fun e2 => if e1 = e2.1 then some (T, A, nx, e2.2) else none
def ls_19 (wx wm : Nat) (a1 a2 a3 a4 a5 : Int) (T : Knd) (A : Rfs) (nx : Nat) (I : Mem) : Option St := (f_X11_go T A wx (a1) I).bind fun e1 => (f_X12_go T A wm (a1) e1.2).bind fun e2 => if e1.1 = e2.1 then some (T, A, nx, e2.2) else none
def ls_20 (wx wm : Nat) (a1 a2 a3 a4 a5 : Int) (T : Knd) (A : Rfs) (nx : Nat) (I : Mem) : Option St := (f_X11_waits T A wx (a1) I).bind fun e1 => (f_X12_waits T A wm (a1) e1.2).bind fun e2 => if e1.1 = e2.1 then some (T, A, nx, e2.2) else none
def ls_21 (wx wm : Nat) (a1 a2 a3 a4 a5 : Int) (T : Knd) (A : Rfs) (nx : Nat) (I : Mem) : Option St := (f_X11_undo T A wx I).bind fun e1 => (f_X12_undo T A wm e1.2).bind fun e2 => if e1.1 = e2.1 then some (T, A, nx, e2.2) else none
def ls_22 (wx wm : Nat) (a1 a2 a3 a4 a5 : Int) (T : Knd) (A : Rfs) (nx : Nat) (I : Mem) : Option St := (f_X11_anew T A wx I).bind fun e1 => (f_X12_anew T A wm e1.2).bind fun e2 => if e1.1 = e2.1 then some (T, A, nx, e2.2) else none
def ls_23 (wx wm : Nat) (a1 a2 a3 a4 a5 : Int) (T : Knd) (A : Rfs) (nx : Nat) (I : Mem) : Option St := (f_X11_led T A wx (a1) I).bind fun e1 => (f_X12_led T A wm (a1) I).bind fun e2 => if e1 = e2.1 then some (T, A, nx, e2.2) else none
def ls_24 (wx wm : Nat) (a1 a2 a3 a4 a5 : Int) (T : Knd) (A : Rfs) (nx : Nat) (I : Mem) : Option St := (f_X11_shoes T A wx I).bind fun e1 => (f_X12_shoes T A wm I).bind fun e2 => if e1 = e2.1 then some (T, A, nx, e2.2) else none
def ls_25 (wx wm : Nat) (a1 a2 a3 a4 a5 : Int) (T : Knd) (A : Rfs) (nx : Nat) (I : Mem) : Option St := (f_X11_paid T A wx I).bind fun e1 => (f_X12_paid T A wm I).bind fun e2 => if e1 = e2.1 then some (T, A, nx, e2.2) else none
def ls_26 (wx wm : Nat) (a1 a2 a3 a4 a5 : Int) (T : Knd) (A : Rfs) (nx : Nat) (I : Mem) : Option St := (f_X11_done T A wx I).bind fun e1 => (f_X12_done T A wm I).bind fun e2 => if e1 = e2.1 then some (T, A, nx, e2.2) else none
def ls_27 (wx wm : Nat) (a1 a2 a3 a4 a5 : Int) (T : Knd) (A : Rfs) (nx : Nat) (I : Mem) : Option St := (f_X11_soonest T A wx I).bind fun e1 => (f_X12_soonest T A wm e1.2).bind fun e2 => if e1.1 = e2.1 then some (T, A, nx, e2.2) else none
def ls_28 (wx wm : Nat) (a1 a2 a3 a4 a5 : Int) (T : Knd) (A : Rfs) (nx : Nat) (I : Mem) : Option St := (f_X11_step T A wx (a1) I).bind fun e1 => (f_X12_step T A wm (a1) e1.2).bind fun e2 => if e1.1 = e2.1 then some (T, A, nx, e2.2) else none
def ls_29 (wx wm : Nat) (a1 a2 a3 a4 a5 : Int) (T : Knd) (A : Rfs) (nx : Nat) (I : Mem) : Option St := (f_X11_fewest T A wx I).bind fun e1 => (f_X12_fewest T A wm e1.2).bind fun e2 => if e1.1 = e2.1 then some (T, A, nx, e2.2) else none
def ls_30 (wx wm : Nat) (a1 a2 a3 a4 a5 : Int) (T : Knd) (A : Rfs) (nx : Nat) (I : Mem) : Option St := (f_X11_least T A wx I).bind fun e1 => (f_X12_least T A wm e1.2).bind fun e2 => if e1.1 = e2.1 then some (T, A, nx, e2.2) else none
def ls_31 (wx wm : Nat) (a1 a2 a3 a4 a5 : Int) (T : Knd) (A : Rfs) (nx : Nat) (I : Mem) : Option St := (f_X11_tread T A wx (a1) I).bind fun e1 => (f_X12_tread T A wm (a1) e1.2).bind fun e2 => if e1.1 = e2.1 then some (T, A, nx, e2.2) else none
def ls_32 (wx wm : Nat) (a1 a2 a3 a4 a5 : Int) (T : Knd) (A : Rfs) (nx : Nat) (I : Mem) : Option St := (f_X11_cheapest T A wx I).bind fun e1 => (f_X12_cheapest T A wm e1.2).bind fun e2 => if e1.1 = e2.1 then some (T, A, nx, e2.2) else none
def ls_33 (wx wm : Nat) (a1 a2 a3 a4 a5 : Int) (T : Knd) (A : Rfs) (nx : Nat) (I : Mem) : Option St := (f_X11_whom T A wx I).bind fun e1 => (f_X12_whom T A wm e1.2).bind fun e2 => if e1.1 = e2.1 then some (T, A, nx, e2.2) else none
def ls_34 (wx wm : Nat) (a1 a2 a3 a4 a5 : Int) (T : Knd) (A : Rfs) (nx : Nat) (I : Mem) : Option St := (f_X11_ways T A wx I).bind fun e1 => (f_X12_ways T A wm e1.2).bind fun e2 => if e1.1 = e2.1 then some (T, A, nx, e2.2) else none
def ls_35 (wx wm : Nat) (a1 a2 a3 a4 a5 : Int) (T : Knd) (A : Rfs) (nx : Nat) (I : Mem) : Option St := (f_X11_always T A wx (a1) I).bind fun e1 => (f_X12_always T A wm (a1) e1.2).bind fun e2 => if e1.1 = e2.1 then some (T, A, nx, e2.2) else none
def ls_36 (wx wm : Nat) (a1 a2 a3 a4 a5 : Int) (T : Knd) (A : Rfs) (nx : Nat) (I : Mem) : Option St := (f_X11_slack T A wx (a1) I).bind fun e1 => (f_X12_slack T A wm (a1) e1.2).bind fun e2 => if e1.1 = e2.1 then some (T, A, nx, e2.2) else none
def ls_37 (wx wm : Nat) (a1 a2 a3 a4 a5 : Int) (T : Knd) (A : Rfs) (nx : Nat) (I : Mem) : Option St := (f_X11_start T A wx (a1) I).bind fun e1 => (f_X12_start T A wm (a1) e1.2).bind fun e2 => if e1.1 = e2.1 then some (T, A, nx, e2.2) else none
def ls_38 (wx wm : Nat) (a1 a2 a3 a4 a5 : Int) (T : Knd) (A : Rfs) (nx : Nat) (I : Mem) : Option St := (f_X11_forged T A wx (a1) I).bind fun e1 => (f_X12_forged T A wm (a1) e1.2).bind fun e2 => if e1.1 = e2.1 then some (T, A, nx, e2.2) else none
def ls_39 (wx wm : Nat) (a1 a2 a3 a4 a5 : Int) (T : Knd) (A : Rfs) (nx : Nat) (I : Mem) : Option St := (f_X11_fake T A wx I).bind fun e1 => (f_X12_fake T A wm e1.2).bind fun e2 => if e1.1 = e2.1 then some (T, A, nx, e2.2) else none
def ls_40 (wx wm : Nat) (a1 a2 a3 a4 a5 : Int) (T : Knd) (A : Rfs) (nx : Nat) (I : Mem) : Option St := (f_X11_possible T A wx (a1) I).bind fun e1 => (f_X12_possible T A wm (a1) e1.2).bind fun e2 => if e1.1 = e2.1 then some (T, A, nx, e2.2) else none
def ls_41 (wx wm : Nat) (a1 a2 a3 a4 a5 : Int) (T : Knd) (A : Rfs) (nx : Nat) (I : Mem) : Option St := (f_X11_sets T A wx I).bind fun e1 => (f_X12_sets T A wm e1.2).bind fun e2 => if e1.1 = e2.1 then some (T, A, nx, e2.2) else none
def ls_42 (wx wm : Nat) (a1 a2 a3 a4 a5 : Int) (T : Knd) (A : Rfs) (nx : Nat) (I : Mem) : Option St := (f_X11_never T A wx I).bind fun e1 => (f_X12_never T A wm e1.2).bind fun e2 => if e1.1 = e2.1 then some (T, A, nx, e2.2) else none
def ls_43 (wx wm : Nat) (a1 a2 a3 a4 a5 : Int) (T : Knd) (A : Rfs) (nx : Nat) (I : Mem) : Option St := (f_X11_ring T A wx I).bind fun e1 => (f_X12_ring T A wm e1.2).bind fun e2 => if e1.1 = e2.1 then some (T, A, nx, e2.2) else none
def ls_44 (wx wm : Nat) (a1 a2 a3 a4 a5 : Int) (T : Knd) (A : Rfs) (nx : Nat) (I : Mem) : Option St := (f_X11_depth T A wx (a1) I).bind fun e1 => (f_X12_depth T A wm (a1) e1.2).bind fun e2 => if e1.1 = e2.1 then some (T, A, nx, e2.2) else none
def ls_45 (wx wm : Nat) (a1 a2 a3 a4 a5 : Int) (T : Knd) (A : Rfs) (nx : Nat) (I : Mem) : Option St := (f_X11_orders T A wx (a1) I).bind fun e1 => (f_X12_orders T A wm (a1) e1.2).bind fun e2 => if e1.1 = e2.1 then some (T, A, nx, e2.2) else none
def ls_46 (wx wm : Nat) (a1 a2 a3 a4 a5 : Int) (T : Knd) (A : Rfs) (nx : Nat) (I : Mem) : Option St := (f_X11_loose T A wx I).bind fun e1 => (f_X12_loose T A wm e1.2).bind fun e2 => if e1.1 = e2.1 then some (T, A, nx, e2.2) else none
def ls_47 (wx wm : Nat) (a1 a2 a3 a4 a5 : Int) (T : Knd) (A : Rfs) (nx : Nat) (I : Mem) : Option St := (f_X11_loosely T A wx (a1) I).bind fun e1 => (f_X12_loosely T A wm (a1) e1.2).bind fun e2 => if e1.1 = e2.1 then some (T, A, nx, e2.2) else none
def ls_48 (wx wm : Nat) (a1 a2 a3 a4 a5 : Int) (T : Knd) (A : Rfs) (nx : Nat) (I : Mem) : Option St := (f_X11_parted T A wx I).bind fun e1 => (f_X12_parted T A wm e1.2).bind fun e2 => if e1.1 = e2.1 then some (T, A, nx, e2.2) else none
def ls_49 (wx wm : Nat) (a1 a2 a3 a4 a5 : Int) (T : Knd) (A : Rfs) (nx : Nat) (I : Mem) : Option St := (f_X11_judge T A wx (a1) I).bind fun e1 => (f_X12_judge T A wm (a1) I).bind fun e2 => if e1 = e2.1 then some (T, A, nx, e2.2) else none
def ls_50 (wx wm : Nat) (a1 a2 a3 a4 a5 : Int) (T : Knd) (A : Rfs) (nx : Nat) (I : Mem) : Option St := (f_X11_bribed T A wx (a1) I).bind fun e1 => (f_X12_bribed T A wm (a1) I).bind fun e2 => if e1 = e2.1 then some (T, A, nx, e2.2) else none
def ls_51 (wx wm : Nat) (a1 a2 a3 a4 a5 : Int) (T : Knd) (A : Rfs) (nx : Nat) (I : Mem) : Option St := (f_X11_run T A wx (a1) I).bind fun e1 => (f_X12_run T A wm (a1) e1.2).bind fun e2 => if e1.1 = e2.1 then some (T, A, nx, e2.2) else none
def ls_52 (wx wm : Nat) (a1 a2 a3 a4 a5 : Int) (T : Knd) (A : Rfs) (nx : Nat) (I : Mem) : Option St := (f_X11_queue T A wx (a1) (a2) I).bind fun e1 => (f_X12_queue T A wm (a1) (a2) e1.2).bind fun e2 => if e1.1 = e2.1 then some (T, A, nx, e2.2) else none
def ls_53 (wx wm : Nat) (a1 a2 a3 a4 a5 : Int) (T : Knd) (A : Rfs) (nx : Nat) (I : Mem) : Option St := (f_X11_served T A wx (a1) (a2) I).bind fun e1 => (f_X12_served T A wm (a1) (a2) e1.2).bind fun e2 => if e1.1 = e2.1 then some (T, A, nx, e2.2) else none
def ls_54 (wx wm : Nat) (a1 a2 a3 a4 a5 : Int) (T : Knd) (A : Rfs) (nx : Nat) (I : Mem) : Option St := (f_X11_chair T A wx (a1) I).bind fun e1 => (f_X12_chair T A wm (a1) e1.2).bind fun e2 => if e1.1 = e2.1 then some (T, A, nx, e2.2) else none
def ls_55 (wx wm : Nat) (a1 a2 a3 a4 a5 : Int) (T : Knd) (A : Rfs) (nx : Nat) (I : Mem) : Option St := (f_X11_blind T A wx (a1) I).bind fun e1 => (f_X12_blind T A wm (a1) e1.2).bind fun e2 => if e1.1 = e2.1 then some (T, A, nx, e2.2) else none
def ls_56 (wx wm : Nat) (a1 a2 a3 a4 a5 : Int) (T : Knd) (A : Rfs) (nx : Nat) (I : Mem) : Option St := (f_X11_tries T A wx (a1) I).bind fun e1 => (f_X12_tries T A wm (a1) e1.2).bind fun e2 => if e1.1 = e2.1 then some (T, A, nx, e2.2) else none
def ls_57 (wx wm : Nat) (a1 a2 a3 a4 a5 : Int) (T : Knd) (A : Rfs) (nx : Nat) (I : Mem) : Option St := (f_X11_luck T A wx (a1) (a2) I).bind fun e1 => (f_X12_luck T A wm (a1) (a2) e1.2).bind fun e2 => if e1.1 = e2.1 then some (T, A, nx, e2.2) else none
def ls_58 (wx wm : Nat) (a1 a2 a3 a4 a5 : Int) (T : Knd) (A : Rfs) (nx : Nat) (I : Mem) : Option St := (f_X11_worth T A wx (a1) (a2) (a3) I).bind fun e1 => (f_X12_worth T A wm (a1) (a2) (a3) e1.2).bind fun e2 => if e1.1 = e2.1 then some (T, A, nx, e2.2) else none
def ls_59 (wx wm : Nat) (a1 a2 a3 a4 a5 : Int) (T : Knd) (A : Rfs) (nx : Nat) (I : Mem) : Option St := (f_X11_ask T A wx (a1) (a2) (a3) (a4) I).bind fun e1 => (f_X12_ask T A wm (a1) (a2) (a3) (a4) e1.2).bind fun e2 => if e1.1 = e2.1 then some (T, A, nx, e2.2) else none
def ls_60 (wx wm : Nat) (a1 a2 a3 a4 a5 : Int) (T : Knd) (A : Rfs) (nx : Nat) (I : Mem) : Option St := (f_X11_leave T A wx (a1) (a2) (a3) I).bind fun e1 => (f_X12_leave T A wm (a1) (a2) (a3) e1.2).bind fun e2 => if e1.1 = e2.1 then some (T, A, nx, e2.2) else none
def ls_61 (wx wm : Nat) (a1 a2 a3 a4 a5 : Int) (T : Knd) (A : Rfs) (nx : Nat) (I : Mem) : Option St := (f_X11_wants T A wx (a1) I).bind fun e1 => (f_X12_wants T A wm (a1) e1.2).bind fun e2 => if e1.1 = e2.1 then some (T, A, nx, e2.2) else none
def ls_62 (wx wm : Nat) (a1 a2 a3 a4 a5 : Int) (T : Knd) (A : Rfs) (nx : Nat) (I : Mem) : Option St := (f_X11_count T A wx (a1) I).bind fun e1 => (f_X12_count T A wm (a1) I).bind fun e2 => if e1 = e2.1 then some (T, A, nx, e2.2) else none
def ls_63 (wx wm : Nat) (a1 a2 a3 a4 a5 : Int) (T : Knd) (A : Rfs) (nx : Nat) (I : Mem) : Option St := (f_X11_keep T A nx wx (a1) I).bind fun e1 => (f_X12_keep e1.2.1 e1.2.2.1 wm (a1) e1.2.2.2.2).bind fun e2 => if e1.1 = e2.1 then some (e1.2.1, e1.2.2.1, e1.2.2.2.1, e2.2) else none
def ls_64 (wx wm : Nat) (a1 a2 a3 a4 a5 : Int) (T : Knd) (A : Rfs) (nx : Nat) (I : Mem) : Option St := (f_X11_back T A wx (a1) I).bind fun e1 => (f_X12_back T A wm (a1) e1.2).bind fun e2 => if e1.1 = e2.1 then some (T, A, nx, e2.2) else none
def ls_65 (wx wm : Nat) (a1 a2 a3 a4 a5 : Int) (T : Knd) (A : Rfs) (nx : Nat) (I : Mem) : Option St := (f_X11_row T A wx (a1) (a2) (a3) I).bind fun e1 => (f_X12_row T A wm (a1) (a2) (a3) e1.2).bind fun e2 => if e1.1 = e2.1 then some (T, A, nx, e2.2) else none
def ls_66 (wx wm : Nat) (a1 a2 a3 a4 a5 : Int) (T : Knd) (A : Rfs) (nx : Nat) (I : Mem) : Option St := (f_X11_write T A wx (a1) (a2) (ilor (ilshl (a3) (32)) (iland (a4) (4294967295))) I).bind fun e1 => (f_X12_write T A wm (a1) (a2) (ilor (ilshl (a3) (32)) (iland (a4) (4294967295))) e1.2).bind fun e2 => if e1.1 = e2.1 then some (T, A, nx, e2.2) else none
def ls_67 (wx wm : Nat) (a1 a2 a3 a4 a5 : Int) (T : Knd) (A : Rfs) (nx : Nat) (I : Mem) : Option St := (f_X11_paste T A wx (a1) (a2) (a3) (a4) (a5) I).bind fun e1 => (f_X12_paste T A wm (a1) (a2) (a3) (a4) (a5) e1.2).bind fun e2 => if e1.1 = e2.1 then some (T, A, nx, e2.2) else none
def lst_67 (wx wm : Nat) (op a1 a2 a3 a4 a5 : Int) (T : Knd) (A : Rfs) (nx : Nat) (I : Mem) : Option St := if op = 67 then ls_67 wx wm a1 a2 a3 a4 a5 T A nx I else some (T, A, nx, I)
def lst_66 (wx wm : Nat) (op a1 a2 a3 a4 a5 : Int) (T : Knd) (A : Rfs) (nx : Nat) (I : Mem) : Option St := if op = 66 then ls_66 wx wm a1 a2 a3 a4 a5 T A nx I else lst_67 wx wm op a1 a2 a3 a4 a5 T A nx I
def lst_65 (wx wm : Nat) (op a1 a2 a3 a4 a5 : Int) (T : Knd) (A : Rfs) (nx : Nat) (I : Mem) : Option St := if op = 65 then ls_65 wx wm a1 a2 a3 a4 a5 T A nx I else lst_66 wx wm op a1 a2 a3 a4 a5 T A nx I
def lst_64 (wx wm : Nat) (op a1 a2 a3 a4 a5 : Int) (T : Knd) (A : Rfs) (nx : Nat) (I : Mem) : Option St := if op = 64 then ls_64 wx wm a1 a2 a3 a4 a5 T A nx I else lst_65 wx wm op a1 a2 a3 a4 a5 T A nx I
def lst_63 (wx wm : Nat) (op a1 a2 a3 a4 a5 : Int) (T : Knd) (A : Rfs) (nx : Nat) (I : Mem) : Option St := if op = 63 then ls_63 wx wm a1 a2 a3 a4 a5 T A nx I else lst_64 wx wm op a1 a2 a3 a4 a5 T A nx I
def lst_62 (wx wm : Nat) (op a1 a2 a3 a4 a5 : Int) (T : Knd) (A : Rfs) (nx : Nat) (I : Mem) : Option St := if op = 62 then ls_62 wx wm a1 a2 a3 a4 a5 T A nx I else lst_63 wx wm op a1 a2 a3 a4 a5 T A nx I
def lst_61 (wx wm : Nat) (op a1 a2 a3 a4 a5 : Int) (T : Knd) (A : Rfs) (nx : Nat) (I : Mem) : Option St := if op = 61 then ls_61 wx wm a1 a2 a3 a4 a5 T A nx I else lst_62 wx wm op a1 a2 a3 a4 a5 T A nx I
def lst_60 (wx wm : Nat) (op a1 a2 a3 a4 a5 : Int) (T : Knd) (A : Rfs) (nx : Nat) (I : Mem) : Option St := if op = 60 then ls_60 wx wm a1 a2 a3 a4 a5 T A nx I else lst_61 wx wm op a1 a2 a3 a4 a5 T A nx I
def lst_59 (wx wm : Nat) (op a1 a2 a3 a4 a5 : Int) (T : Knd) (A : Rfs) (nx : Nat) (I : Mem) : Option St := if op = 59 then ls_59 wx wm a1 a2 a3 a4 a5 T A nx I else lst_60 wx wm op a1 a2 a3 a4 a5 T A nx I
def lst_58 (wx wm : Nat) (op a1 a2 a3 a4 a5 : Int) (T : Knd) (A : Rfs) (nx : Nat) (I : Mem) : Option St := if op = 58 then ls_58 wx wm a1 a2 a3 a4 a5 T A nx I else lst_59 wx wm op a1 a2 a3 a4 a5 T A nx I
def lst_57 (wx wm : Nat) (op a1 a2 a3 a4 a5 : Int) (T : Knd) (A : Rfs) (nx : Nat) (I : Mem) : Option St := if op = 57 then ls_57 wx wm a1 a2 a3 a4 a5 T A nx I else lst_58 wx wm op a1 a2 a3 a4 a5 T A nx I
def lst_56 (wx wm : Nat) (op a1 a2 a3 a4 a5 : Int) (T : Knd) (A : Rfs) (nx : Nat) (I : Mem) : Option St := if op = 56 then ls_56 wx wm a1 a2 a3 a4 a5 T A nx I else lst_57 wx wm op a1 a2 a3 a4 a5 T A nx I
def lst_55 (wx wm : Nat) (op a1 a2 a3 a4 a5 : Int) (T : Knd) (A : Rfs) (nx : Nat) (I : Mem) : Option St := if op = 55 then ls_55 wx wm a1 a2 a3 a4 a5 T A nx I else lst_56 wx wm op a1 a2 a3 a4 a5 T A nx I
def lst_54 (wx wm : Nat) (op a1 a2 a3 a4 a5 : Int) (T : Knd) (A : Rfs) (nx : Nat) (I : Mem) : Option St := if op = 54 then ls_54 wx wm a1 a2 a3 a4 a5 T A nx I else lst_55 wx wm op a1 a2 a3 a4 a5 T A nx I
def lst_53 (wx wm : Nat) (op a1 a2 a3 a4 a5 : Int) (T : Knd) (A : Rfs) (nx : Nat) (I : Mem) : Option St := if op = 53 then ls_53 wx wm a1 a2 a3 a4 a5 T A nx I else lst_54 wx wm op a1 a2 a3 a4 a5 T A nx I
def lst_52 (wx wm : Nat) (op a1 a2 a3 a4 a5 : Int) (T : Knd) (A : Rfs) (nx : Nat) (I : Mem) : Option St := if op = 52 then ls_52 wx wm a1 a2 a3 a4 a5 T A nx I else lst_53 wx wm op a1 a2 a3 a4 a5 T A nx I
def lst_51 (wx wm : Nat) (op a1 a2 a3 a4 a5 : Int) (T : Knd) (A : Rfs) (nx : Nat) (I : Mem) : Option St := if op = 51 then ls_51 wx wm a1 a2 a3 a4 a5 T A nx I else lst_52 wx wm op a1 a2 a3 a4 a5 T A nx I
def lst_50 (wx wm : Nat) (op a1 a2 a3 a4 a5 : Int) (T : Knd) (A : Rfs) (nx : Nat) (I : Mem) : Option St := if op = 50 then ls_50 wx wm a1 a2 a3 a4 a5 T A nx I else lst_51 wx wm op a1 a2 a3 a4 a5 T A nx I
def lst_49 (wx wm : Nat) (op a1 a2 a3 a4 a5 : Int) (T : Knd) (A : Rfs) (nx : Nat) (I : Mem) : Option St := if op = 49 then ls_49 wx wm a1 a2 a3 a4 a5 T A nx I else lst_50 wx wm op a1 a2 a3 a4 a5 T A nx I
def lst_48 (wx wm : Nat) (op a1 a2 a3 a4 a5 : Int) (T : Knd) (A : Rfs) (nx : Nat) (I : Mem) : Option St := if op = 48 then ls_48 wx wm a1 a2 a3 a4 a5 T A nx I else lst_49 wx wm op a1 a2 a3 a4 a5 T A nx I
def lst_47 (wx wm : Nat) (op a1 a2 a3 a4 a5 : Int) (T : Knd) (A : Rfs) (nx : Nat) (I : Mem) : Option St := if op = 47 then ls_47 wx wm a1 a2 a3 a4 a5 T A nx I else lst_48 wx wm op a1 a2 a3 a4 a5 T A nx I
def lst_46 (wx wm : Nat) (op a1 a2 a3 a4 a5 : Int) (T : Knd) (A : Rfs) (nx : Nat) (I : Mem) : Option St := if op = 46 then ls_46 wx wm a1 a2 a3 a4 a5 T A nx I else lst_47 wx wm op a1 a2 a3 a4 a5 T A nx I
def lst_45 (wx wm : Nat) (op a1 a2 a3 a4 a5 : Int) (T : Knd) (A : Rfs) (nx : Nat) (I : Mem) : Option St := if op = 45 then ls_45 wx wm a1 a2 a3 a4 a5 T A nx I else lst_46 wx wm op a1 a2 a3 a4 a5 T A nx I
def lst_44 (wx wm : Nat) (op a1 a2 a3 a4 a5 : Int) (T : Knd) (A : Rfs) (nx : Nat) (I : Mem) : Option St := if op = 44 then ls_44 wx wm a1 a2 a3 a4 a5 T A nx I else lst_45 wx wm op a1 a2 a3 a4 a5 T A nx I
def lst_43 (wx wm : Nat) (op a1 a2 a3 a4 a5 : Int) (T : Knd) (A : Rfs) (nx : Nat) (I : Mem) : Option St := if op = 43 then ls_43 wx wm a1 a2 a3 a4 a5 T A nx I else lst_44 wx wm op a1 a2 a3 a4 a5 T A nx I
def lst_42 (wx wm : Nat) (op a1 a2 a3 a4 a5 : Int) (T : Knd) (A : Rfs) (nx : Nat) (I : Mem) : Option St := if op = 42 then ls_42 wx wm a1 a2 a3 a4 a5 T A nx I else lst_43 wx wm op a1 a2 a3 a4 a5 T A nx I
def lst_41 (wx wm : Nat) (op a1 a2 a3 a4 a5 : Int) (T : Knd) (A : Rfs) (nx : Nat) (I : Mem) : Option St := if op = 41 then ls_41 wx wm a1 a2 a3 a4 a5 T A nx I else lst_42 wx wm op a1 a2 a3 a4 a5 T A nx I
def lst_40 (wx wm : Nat) (op a1 a2 a3 a4 a5 : Int) (T : Knd) (A : Rfs) (nx : Nat) (I : Mem) : Option St := if op = 40 then ls_40 wx wm a1 a2 a3 a4 a5 T A nx I else lst_41 wx wm op a1 a2 a3 a4 a5 T A nx I
def lst_39 (wx wm : Nat) (op a1 a2 a3 a4 a5 : Int) (T : Knd) (A : Rfs) (nx : Nat) (I : Mem) : Option St := if op = 39 then ls_39 wx wm a1 a2 a3 a4 a5 T A nx I else lst_40 wx wm op a1 a2 a3 a4 a5 T A nx I
def lst_38 (wx wm : Nat) (op a1 a2 a3 a4 a5 : Int) (T : Knd) (A : Rfs) (nx : Nat) (I : Mem) : Option St := if op = 38 then ls_38 wx wm a1 a2 a3 a4 a5 T A nx I else lst_39 wx wm op a1 a2 a3 a4 a5 T A nx I
def lst_37 (wx wm : Nat) (op a1 a2 a3 a4 a5 : Int) (T : Knd) (A : Rfs) (nx : Nat) (I : Mem) : Option St := if op = 37 then ls_37 wx wm a1 a2 a3 a4 a5 T A nx I else lst_38 wx wm op a1 a2 a3 a4 a5 T A nx I
def lst_36 (wx wm : Nat) (op a1 a2 a3 a4 a5 : Int) (T : Knd) (A : Rfs) (nx : Nat) (I : Mem) : Option St := if op = 36 then ls_36 wx wm a1 a2 a3 a4 a5 T A nx I else lst_37 wx wm op a1 a2 a3 a4 a5 T A nx I
def lst_35 (wx wm : Nat) (op a1 a2 a3 a4 a5 : Int) (T : Knd) (A : Rfs) (nx : Nat) (I : Mem) : Option St := if op = 35 then ls_35 wx wm a1 a2 a3 a4 a5 T A nx I else lst_36 wx wm op a1 a2 a3 a4 a5 T A nx I
def lst_34 (wx wm : Nat) (op a1 a2 a3 a4 a5 : Int) (T : Knd) (A : Rfs) (nx : Nat) (I : Mem) : Option St := if op = 34 then ls_34 wx wm a1 a2 a3 a4 a5 T A nx I else lst_35 wx wm op a1 a2 a3 a4 a5 T A nx I
def lst_33 (wx wm : Nat) (op a1 a2 a3 a4 a5 : Int) (T : Knd) (A : Rfs) (nx : Nat) (I : Mem) : Option St := if op = 33 then ls_33 wx wm a1 a2 a3 a4 a5 T A nx I else lst_34 wx wm op a1 a2 a3 a4 a5 T A nx I
def lst_32 (wx wm : Nat) (op a1 a2 a3 a4 a5 : Int) (T : Knd) (A : Rfs) (nx : Nat) (I : Mem) : Option St := if op = 32 then ls_32 wx wm a1 a2 a3 a4 a5 T A nx I else lst_33 wx wm op a1 a2 a3 a4 a5 T A nx I
def lst_31 (wx wm : Nat) (op a1 a2 a3 a4 a5 : Int) (T : Knd) (A : Rfs) (nx : Nat) (I : Mem) : Option St := if op = 31 then ls_31 wx wm a1 a2 a3 a4 a5 T A nx I else lst_32 wx wm op a1 a2 a3 a4 a5 T A nx I
def lst_30 (wx wm : Nat) (op a1 a2 a3 a4 a5 : Int) (T : Knd) (A : Rfs) (nx : Nat) (I : Mem) : Option St := if op = 30 then ls_30 wx wm a1 a2 a3 a4 a5 T A nx I else lst_31 wx wm op a1 a2 a3 a4 a5 T A nx I
def lst_29 (wx wm : Nat) (op a1 a2 a3 a4 a5 : Int) (T : Knd) (A : Rfs) (nx : Nat) (I : Mem) : Option St := if op = 29 then ls_29 wx wm a1 a2 a3 a4 a5 T A nx I else lst_30 wx wm op a1 a2 a3 a4 a5 T A nx I
def lst_28 (wx wm : Nat) (op a1 a2 a3 a4 a5 : Int) (T : Knd) (A : Rfs) (nx : Nat) (I : Mem) : Option St := if op = 28 then ls_28 wx wm a1 a2 a3 a4 a5 T A nx I else lst_29 wx wm op a1 a2 a3 a4 a5 T A nx I
def lst_27 (wx wm : Nat) (op a1 a2 a3 a4 a5 : Int) (T : Knd) (A : Rfs) (nx : Nat) (I : Mem) : Option St := if op = 27 then ls_27 wx wm a1 a2 a3 a4 a5 T A nx I else lst_28 wx wm op a1 a2 a3 a4 a5 T A nx I
def lst_26 (wx wm : Nat) (op a1 a2 a3 a4 a5 : Int) (T : Knd) (A : Rfs) (nx : Nat) (I : Mem) : Option St := if op = 26 then ls_26 wx wm a1 a2 a3 a4 a5 T A nx I else lst_27 wx wm op a1 a2 a3 a4 a5 T A nx I
def lst_25 (wx wm : Nat) (op a1 a2 a3 a4 a5 : Int) (T : Knd) (A : Rfs) (nx : Nat) (I : Mem) : Option St := if op = 25 then ls_25 wx wm a1 a2 a3 a4 a5 T A nx I else lst_26 wx wm op a1 a2 a3 a4 a5 T A nx I
def lst_24 (wx wm : Nat) (op a1 a2 a3 a4 a5 : Int) (T : Knd) (A : Rfs) (nx : Nat) (I : Mem) : Option St := if op = 24 then ls_24 wx wm a1 a2 a3 a4 a5 T A nx I else lst_25 wx wm op a1 a2 a3 a4 a5 T A nx I
def lst_23 (wx wm : Nat) (op a1 a2 a3 a4 a5 : Int) (T : Knd) (A : Rfs) (nx : Nat) (I : Mem) : Option St := if op = 23 then ls_23 wx wm a1 a2 a3 a4 a5 T A nx I else lst_24 wx wm op a1 a2 a3 a4 a5 T A nx I
def lst_22 (wx wm : Nat) (op a1 a2 a3 a4 a5 : Int) (T : Knd) (A : Rfs) (nx : Nat) (I : Mem) : Option St := if op = 22 then ls_22 wx wm a1 a2 a3 a4 a5 T A nx I else lst_23 wx wm op a1 a2 a3 a4 a5 T A nx I
def lst_21 (wx wm : Nat) (op a1 a2 a3 a4 a5 : Int) (T : Knd) (A : Rfs) (nx : Nat) (I : Mem) : Option St := if op = 21 then ls_21 wx wm a1 a2 a3 a4 a5 T A nx I else lst_22 wx wm op a1 a2 a3 a4 a5 T A nx I
def lst_20 (wx wm : Nat) (op a1 a2 a3 a4 a5 : Int) (T : Knd) (A : Rfs) (nx : Nat) (I : Mem) : Option St := if op = 20 then ls_20 wx wm a1 a2 a3 a4 a5 T A nx I else lst_21 wx wm op a1 a2 a3 a4 a5 T A nx I
def lst_19 (wx wm : Nat) (op a1 a2 a3 a4 a5 : Int) (T : Knd) (A : Rfs) (nx : Nat) (I : Mem) : Option St := if op = 19 then ls_19 wx wm a1 a2 a3 a4 a5 T A nx I else lst_20 wx wm op a1 a2 a3 a4 a5 T A nx I
def lst_18 (wx wm : Nat) (op a1 a2 a3 a4 a5 : Int) (T : Knd) (A : Rfs) (nx : Nat) (I : Mem) : Option St := if op = 18 then ls_18 wx wm a1 a2 a3 a4 a5 T A nx I else lst_19 wx wm op a1 a2 a3 a4 a5 T A nx I
def lst_17 (wx wm : Nat) (op a1 a2 a3 a4 a5 : Int) (T : Knd) (A : Rfs) (nx : Nat) (I : Mem) : Option St := if op = 17 then ls_17 wx wm a1 a2 a3 a4 a5 T A nx I else lst_18 wx wm op a1 a2 a3 a4 a5 T A nx I
def lst_16 (wx wm : Nat) (op a1 a2 a3 a4 a5 : Int) (T : Knd) (A : Rfs) (nx : Nat) (I : Mem) : Option St := if op = 16 then ls_16 wx wm a1 a2 a3 a4 a5 T A nx I else lst_17 wx wm op a1 a2 a3 a4 a5 T A nx I
def lst_15 (wx wm : Nat) (op a1 a2 a3 a4 a5 : Int) (T : Knd) (A : Rfs) (nx : Nat) (I : Mem) : Option St := if op = 15 then ls_15 wx wm a1 a2 a3 a4 a5 T A nx I else lst_16 wx wm op a1 a2 a3 a4 a5 T A nx I
def lst_14 (wx wm : Nat) (op a1 a2 a3 a4 a5 : Int) (T : Knd) (A : Rfs) (nx : Nat) (I : Mem) : Option St := if op = 14 then ls_14 wx wm a1 a2 a3 a4 a5 T A nx I else lst_15 wx wm op a1 a2 a3 a4 a5 T A nx I
def lst_13 (wx wm : Nat) (op a1 a2 a3 a4 a5 : Int) (T : Knd) (A : Rfs) (nx : Nat) (I : Mem) : Option St := if op = 13 then ls_13 wx wm a1 a2 a3 a4 a5 T A nx I else lst_14 wx wm op a1 a2 a3 a4 a5 T A nx I
def lst_12 (wx wm : Nat) (op a1 a2 a3 a4 a5 : Int) (T : Knd) (A : Rfs) (nx : Nat) (I : Mem) : Option St := if op = 12 then ls_12 wx wm a1 a2 a3 a4 a5 T A nx I else lst_13 wx wm op a1 a2 a3 a4 a5 T A nx I
def lst_11 (wx wm : Nat) (op a1 a2 a3 a4 a5 : Int) (T : Knd) (A : Rfs) (nx : Nat) (I : Mem) : Option St := if op = 11 then ls_11 wx wm a1 a2 a3 a4 a5 T A nx I else lst_12 wx wm op a1 a2 a3 a4 a5 T A nx I
def lst_10 (wx wm : Nat) (op a1 a2 a3 a4 a5 : Int) (T : Knd) (A : Rfs) (nx : Nat) (I : Mem) : Option St := if op = 10 then ls_10 wx wm a1 a2 a3 a4 a5 T A nx I else lst_11 wx wm op a1 a2 a3 a4 a5 T A nx I
def lst_9 (wx wm : Nat) (op a1 a2 a3 a4 a5 : Int) (T : Knd) (A : Rfs) (nx : Nat) (I : Mem) : Option St := if op = 9 then ls_9 wx wm a1 a2 a3 a4 a5 T A nx I else lst_10 wx wm op a1 a2 a3 a4 a5 T A nx I
def lst_8 (wx wm : Nat) (op a1 a2 a3 a4 a5 : Int) (T : Knd) (A : Rfs) (nx : Nat) (I : Mem) : Option St := if op = 8 then ls_8 wx wm a1 a2 a3 a4 a5 T A nx I else lst_9 wx wm op a1 a2 a3 a4 a5 T A nx I
def lst_7 (wx wm : Nat) (op a1 a2 a3 a4 a5 : Int) (T : Knd) (A : Rfs) (nx : Nat) (I : Mem) : Option St := if op = 7 then ls_7 wx wm a1 a2 a3 a4 a5 T A nx I else lst_8 wx wm op a1 a2 a3 a4 a5 T A nx I
def lst_6 (wx wm : Nat) (op a1 a2 a3 a4 a5 : Int) (T : Knd) (A : Rfs) (nx : Nat) (I : Mem) : Option St := if op = 6 then ls_6 wx wm a1 a2 a3 a4 a5 T A nx I else lst_7 wx wm op a1 a2 a3 a4 a5 T A nx I
def lst_5 (wx wm : Nat) (op a1 a2 a3 a4 a5 : Int) (T : Knd) (A : Rfs) (nx : Nat) (I : Mem) : Option St := if op = 5 then ls_5 wx wm a1 a2 a3 a4 a5 T A nx I else lst_6 wx wm op a1 a2 a3 a4 a5 T A nx I
def lst_4 (wx wm : Nat) (op a1 a2 a3 a4 a5 : Int) (T : Knd) (A : Rfs) (nx : Nat) (I : Mem) : Option St := if op = 4 then ls_4 wx wm a1 a2 a3 a4 a5 T A nx I else lst_5 wx wm op a1 a2 a3 a4 a5 T A nx I
def lst_3 (wx wm : Nat) (op a1 a2 a3 a4 a5 : Int) (T : Knd) (A : Rfs) (nx : Nat) (I : Mem) : Option St := if op = 3 then ls_3 wx wm a1 a2 a3 a4 a5 T A nx I else lst_4 wx wm op a1 a2 a3 a4 a5 T A nx I
def lst_2 (wx wm : Nat) (op a1 a2 a3 a4 a5 : Int) (T : Knd) (A : Rfs) (nx : Nat) (I : Mem) : Option St := if op = 2 then ls_2 wx wm a1 a2 a3 a4 a5 T A nx I else lst_3 wx wm op a1 a2 a3 a4 a5 T A nx I
def lst_1 (wx wm : Nat) (op a1 a2 a3 a4 a5 : Int) (T : Knd) (A : Rfs) (nx : Nat) (I : Mem) : Option St := if op = 1 then ls_1 wx wm a1 a2 a3 a4 a5 T A nx I else lst_2 wx wm op a1 a2 a3 a4 a5 T A nx I
def lst_0 (wx wm : Nat) (op a1 a2 a3 a4 a5 : Int) (T : Knd) (A : Rfs) (nx : Nat) (I : Mem) : Option St := if op = 0 then ls_0 wx wm a1 a2 a3 a4 a5 T A nx I else lst_1 wx wm op a1 a2 a3 a4 a5 T A nx I
def lstep (wx wm : Nat) (op a1 a2 a3 a4 a5 : Int) (T : Knd) (A : Rfs) (nx : Nat) (I : Mem) : Option St := lst_0 wx wm op a1 a2 a3 a4 a5 T A nx I
