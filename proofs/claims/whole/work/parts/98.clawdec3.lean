set_option maxRecDepth 20000 in
theorem dG_law_105 : (decode cL_law 1745 = .ok (.i2l, 1)) ∧ (decode cL_law 1746 = .ok (.lcmp, 1)) ∧ (decode cL_law 1747 = .ok (.ifCond .eq 5, 3)) ∧ (decode cL_law 1752 = .ok (.goto 1448, 3)) ∧ (decode cL_law 1755 = .ok (.aload_n 1, 1)) ∧ (decode cL_law 1756 = .ok (.aload_n 0, 1)) ∧ (decode cL_law 1757 = .ok (.iload 4, 2)) ∧ (decode cL_law 1759 = .ok (.iconst 1, 1)) := by decide +kernel
theorem dL_law_1745 : decode cL_law 1745 = .ok (.i2l, 1) := dG_law_105.1
theorem dL_law_1746 : decode cL_law 1746 = .ok (.lcmp, 1) := dG_law_105.2.1
theorem dL_law_1747 : decode cL_law 1747 = .ok (.ifCond .eq 5, 3) := dG_law_105.2.2.1
theorem dL_law_1752 : decode cL_law 1752 = .ok (.goto 1448, 3) := dG_law_105.2.2.2.1
theorem dL_law_1755 : decode cL_law 1755 = .ok (.aload_n 1, 1) := dG_law_105.2.2.2.2.1
theorem dL_law_1756 : decode cL_law 1756 = .ok (.aload_n 0, 1) := dG_law_105.2.2.2.2.2.1
theorem dL_law_1757 : decode cL_law 1757 = .ok (.iload 4, 2) := dG_law_105.2.2.2.2.2.2.1
theorem dL_law_1759 : decode cL_law 1759 = .ok (.iconst 1, 1) := dG_law_105.2.2.2.2.2.2.2
set_option maxRecDepth 20000 in
theorem dG_law_106 : (decode cL_law 1760 = .ok (.iadd, 1)) ∧ (decode cL_law 1761 = .ok (.iaload, 1)) ∧ (decode cL_law 1762 = .ok (.aload_n 0, 1)) ∧ (decode cL_law 1763 = .ok (.iload 4, 2)) ∧ (decode cL_law 1765 = .ok (.iconst 2, 1)) ∧ (decode cL_law 1766 = .ok (.iadd, 1)) ∧ (decode cL_law 1767 = .ok (.iaload, 1)) ∧ (decode cL_law 1768 = .ok (.aload_n 0, 1)) := by decide +kernel
theorem dL_law_1760 : decode cL_law 1760 = .ok (.iadd, 1) := dG_law_106.1
theorem dL_law_1761 : decode cL_law 1761 = .ok (.iaload, 1) := dG_law_106.2.1
theorem dL_law_1762 : decode cL_law 1762 = .ok (.aload_n 0, 1) := dG_law_106.2.2.1
theorem dL_law_1763 : decode cL_law 1763 = .ok (.iload 4, 2) := dG_law_106.2.2.2.1
theorem dL_law_1765 : decode cL_law 1765 = .ok (.iconst 2, 1) := dG_law_106.2.2.2.2.1
theorem dL_law_1766 : decode cL_law 1766 = .ok (.iadd, 1) := dG_law_106.2.2.2.2.2.1
theorem dL_law_1767 : decode cL_law 1767 = .ok (.iaload, 1) := dG_law_106.2.2.2.2.2.2.1
theorem dL_law_1768 : decode cL_law 1768 = .ok (.aload_n 0, 1) := dG_law_106.2.2.2.2.2.2.2
set_option maxRecDepth 20000 in
theorem dG_law_107 : (decode cL_law 1769 = .ok (.iload 4, 2)) ∧ (decode cL_law 1771 = .ok (.iconst 3, 1)) ∧ (decode cL_law 1772 = .ok (.iadd, 1)) ∧ (decode cL_law 1773 = .ok (.iaload, 1)) ∧ (decode cL_law 1774 = .ok (.aload_n 3, 1)) ∧ (decode cL_law 1775 = .ok (.invokestatic 263, 3)) ∧ (decode cL_law 1778 = .ok (.istore 5, 2)) ∧ (decode cL_law 1780 = .ok (.aload_n 2, 1)) := by decide +kernel
theorem dL_law_1769 : decode cL_law 1769 = .ok (.iload 4, 2) := dG_law_107.1
theorem dL_law_1771 : decode cL_law 1771 = .ok (.iconst 3, 1) := dG_law_107.2.1
theorem dL_law_1772 : decode cL_law 1772 = .ok (.iadd, 1) := dG_law_107.2.2.1
theorem dL_law_1773 : decode cL_law 1773 = .ok (.iaload, 1) := dG_law_107.2.2.2.1
theorem dL_law_1774 : decode cL_law 1774 = .ok (.aload_n 3, 1) := dG_law_107.2.2.2.2.1
theorem dL_law_1775 : decode cL_law 1775 = .ok (.invokestatic 263, 3) := dG_law_107.2.2.2.2.2.1
theorem dL_law_1778 : decode cL_law 1778 = .ok (.istore 5, 2) := dG_law_107.2.2.2.2.2.2.1
theorem dL_law_1780 : decode cL_law 1780 = .ok (.aload_n 2, 1) := dG_law_107.2.2.2.2.2.2.2
set_option maxRecDepth 20000 in
theorem dG_law_108 : (decode cL_law 1781 = .ok (.aload_n 0, 1)) ∧ (decode cL_law 1782 = .ok (.iload 4, 2)) ∧ (decode cL_law 1784 = .ok (.iconst 1, 1)) ∧ (decode cL_law 1785 = .ok (.iadd, 1)) ∧ (decode cL_law 1786 = .ok (.iaload, 1)) ∧ (decode cL_law 1787 = .ok (.aload_n 0, 1)) ∧ (decode cL_law 1788 = .ok (.iload 4, 2)) ∧ (decode cL_law 1790 = .ok (.iconst 2, 1)) := by decide +kernel
theorem dL_law_1781 : decode cL_law 1781 = .ok (.aload_n 0, 1) := dG_law_108.1
theorem dL_law_1782 : decode cL_law 1782 = .ok (.iload 4, 2) := dG_law_108.2.1
theorem dL_law_1784 : decode cL_law 1784 = .ok (.iconst 1, 1) := dG_law_108.2.2.1
theorem dL_law_1785 : decode cL_law 1785 = .ok (.iadd, 1) := dG_law_108.2.2.2.1
theorem dL_law_1786 : decode cL_law 1786 = .ok (.iaload, 1) := dG_law_108.2.2.2.2.1
theorem dL_law_1787 : decode cL_law 1787 = .ok (.aload_n 0, 1) := dG_law_108.2.2.2.2.2.1
theorem dL_law_1788 : decode cL_law 1788 = .ok (.iload 4, 2) := dG_law_108.2.2.2.2.2.2.1
theorem dL_law_1790 : decode cL_law 1790 = .ok (.iconst 2, 1) := dG_law_108.2.2.2.2.2.2.2
set_option maxRecDepth 20000 in
theorem dG_law_109 : (decode cL_law 1791 = .ok (.iadd, 1)) ∧ (decode cL_law 1792 = .ok (.iaload, 1)) ∧ (decode cL_law 1793 = .ok (.aload_n 0, 1)) ∧ (decode cL_law 1794 = .ok (.iload 4, 2)) ∧ (decode cL_law 1796 = .ok (.iconst 3, 1)) ∧ (decode cL_law 1797 = .ok (.iadd, 1)) ∧ (decode cL_law 1798 = .ok (.iaload, 1)) ∧ (decode cL_law 1799 = .ok (.invokevirtual 265, 3)) := by decide +kernel
theorem dL_law_1791 : decode cL_law 1791 = .ok (.iadd, 1) := dG_law_109.1
theorem dL_law_1792 : decode cL_law 1792 = .ok (.iaload, 1) := dG_law_109.2.1
theorem dL_law_1793 : decode cL_law 1793 = .ok (.aload_n 0, 1) := dG_law_109.2.2.1
theorem dL_law_1794 : decode cL_law 1794 = .ok (.iload 4, 2) := dG_law_109.2.2.2.1
theorem dL_law_1796 : decode cL_law 1796 = .ok (.iconst 3, 1) := dG_law_109.2.2.2.2.1
theorem dL_law_1797 : decode cL_law 1797 = .ok (.iadd, 1) := dG_law_109.2.2.2.2.2.1
theorem dL_law_1798 : decode cL_law 1798 = .ok (.iaload, 1) := dG_law_109.2.2.2.2.2.2.1
theorem dL_law_1799 : decode cL_law 1799 = .ok (.invokevirtual 265, 3) := dG_law_109.2.2.2.2.2.2.2
set_option maxRecDepth 20000 in
theorem dG_law_110 : (decode cL_law 1802 = .ok (.istore 6, 2)) ∧ (decode cL_law 1804 = .ok (.aload_n 2, 1)) ∧ (decode cL_law 1805 = .ok (.invokevirtual 148, 3)) ∧ (decode cL_law 1808 = .ok (.iload 5, 2)) ∧ (decode cL_law 1810 = .ok (.if_icmp .eq 5, 3)) ∧ (decode cL_law 1815 = .ok (.iload 5, 2)) ∧ (decode cL_law 1817 = .ok (.ifCond .ne 15, 3)) ∧ (decode cL_law 1820 = .ok (.aload_n 3, 1)) := by decide +kernel
theorem dL_law_1802 : decode cL_law 1802 = .ok (.istore 6, 2) := dG_law_110.1
theorem dL_law_1804 : decode cL_law 1804 = .ok (.aload_n 2, 1) := dG_law_110.2.1
theorem dL_law_1805 : decode cL_law 1805 = .ok (.invokevirtual 148, 3) := dG_law_110.2.2.1
theorem dL_law_1808 : decode cL_law 1808 = .ok (.iload 5, 2) := dG_law_110.2.2.2.1
theorem dL_law_1810 : decode cL_law 1810 = .ok (.if_icmp .eq 5, 3) := dG_law_110.2.2.2.2.1
theorem dL_law_1815 : decode cL_law 1815 = .ok (.iload 5, 2) := dG_law_110.2.2.2.2.2.1
theorem dL_law_1817 : decode cL_law 1817 = .ok (.ifCond .ne 15, 3) := dG_law_110.2.2.2.2.2.2.1
theorem dL_law_1820 : decode cL_law 1820 = .ok (.aload_n 3, 1) := dG_law_110.2.2.2.2.2.2.2
set_option maxRecDepth 20000 in
theorem dG_law_111 : (decode cL_law 1821 = .ok (.iconst 0, 1)) ∧ (decode cL_law 1822 = .ok (.laload, 1)) ∧ (decode cL_law 1823 = .ok (.iload 6, 2)) ∧ (decode cL_law 1825 = .ok (.i2l, 1)) ∧ (decode cL_law 1826 = .ok (.lcmp, 1)) ∧ (decode cL_law 1827 = .ok (.ifCond .eq 5, 3)) ∧ (decode cL_law 1832 = .ok (.goto 1368, 3)) ∧ (decode cL_law 1835 = .ok (.aload_n 1, 1)) := by decide +kernel
theorem dL_law_1821 : decode cL_law 1821 = .ok (.iconst 0, 1) := dG_law_111.1
theorem dL_law_1822 : decode cL_law 1822 = .ok (.laload, 1) := dG_law_111.2.1
theorem dL_law_1823 : decode cL_law 1823 = .ok (.iload 6, 2) := dG_law_111.2.2.1
theorem dL_law_1825 : decode cL_law 1825 = .ok (.i2l, 1) := dG_law_111.2.2.2.1
theorem dL_law_1826 : decode cL_law 1826 = .ok (.lcmp, 1) := dG_law_111.2.2.2.2.1
theorem dL_law_1827 : decode cL_law 1827 = .ok (.ifCond .eq 5, 3) := dG_law_111.2.2.2.2.2.1
theorem dL_law_1832 : decode cL_law 1832 = .ok (.goto 1368, 3) := dG_law_111.2.2.2.2.2.2.1
theorem dL_law_1835 : decode cL_law 1835 = .ok (.aload_n 1, 1) := dG_law_111.2.2.2.2.2.2.2
set_option maxRecDepth 20000 in
theorem dG_law_112 : (decode cL_law 1836 = .ok (.aload_n 0, 1)) ∧ (decode cL_law 1837 = .ok (.iload 4, 2)) ∧ (decode cL_law 1839 = .ok (.iconst 1, 1)) ∧ (decode cL_law 1840 = .ok (.iadd, 1)) ∧ (decode cL_law 1841 = .ok (.iaload, 1)) ∧ (decode cL_law 1842 = .ok (.aload_n 0, 1)) ∧ (decode cL_law 1843 = .ok (.iload 4, 2)) ∧ (decode cL_law 1845 = .ok (.iconst 2, 1)) := by decide +kernel
theorem dL_law_1836 : decode cL_law 1836 = .ok (.aload_n 0, 1) := dG_law_112.1
theorem dL_law_1837 : decode cL_law 1837 = .ok (.iload 4, 2) := dG_law_112.2.1
theorem dL_law_1839 : decode cL_law 1839 = .ok (.iconst 1, 1) := dG_law_112.2.2.1
theorem dL_law_1840 : decode cL_law 1840 = .ok (.iadd, 1) := dG_law_112.2.2.2.1
theorem dL_law_1841 : decode cL_law 1841 = .ok (.iaload, 1) := dG_law_112.2.2.2.2.1
theorem dL_law_1842 : decode cL_law 1842 = .ok (.aload_n 0, 1) := dG_law_112.2.2.2.2.2.1
theorem dL_law_1843 : decode cL_law 1843 = .ok (.iload 4, 2) := dG_law_112.2.2.2.2.2.2.1
theorem dL_law_1845 : decode cL_law 1845 = .ok (.iconst 2, 1) := dG_law_112.2.2.2.2.2.2.2
set_option maxRecDepth 20000 in
theorem dG_law_113 : (decode cL_law 1846 = .ok (.iadd, 1)) ∧ (decode cL_law 1847 = .ok (.iaload, 1)) ∧ (decode cL_law 1848 = .ok (.aload_n 3, 1)) ∧ (decode cL_law 1849 = .ok (.invokestatic 266, 3)) ∧ (decode cL_law 1852 = .ok (.istore 5, 2)) ∧ (decode cL_law 1854 = .ok (.aload_n 2, 1)) ∧ (decode cL_law 1855 = .ok (.aload_n 0, 1)) ∧ (decode cL_law 1856 = .ok (.iload 4, 2)) := by decide +kernel
theorem dL_law_1846 : decode cL_law 1846 = .ok (.iadd, 1) := dG_law_113.1
theorem dL_law_1847 : decode cL_law 1847 = .ok (.iaload, 1) := dG_law_113.2.1
theorem dL_law_1848 : decode cL_law 1848 = .ok (.aload_n 3, 1) := dG_law_113.2.2.1
theorem dL_law_1849 : decode cL_law 1849 = .ok (.invokestatic 266, 3) := dG_law_113.2.2.2.1
theorem dL_law_1852 : decode cL_law 1852 = .ok (.istore 5, 2) := dG_law_113.2.2.2.2.1
theorem dL_law_1854 : decode cL_law 1854 = .ok (.aload_n 2, 1) := dG_law_113.2.2.2.2.2.1
theorem dL_law_1855 : decode cL_law 1855 = .ok (.aload_n 0, 1) := dG_law_113.2.2.2.2.2.2.1
theorem dL_law_1856 : decode cL_law 1856 = .ok (.iload 4, 2) := dG_law_113.2.2.2.2.2.2.2
set_option maxRecDepth 20000 in
theorem dG_law_114 : (decode cL_law 1858 = .ok (.iconst 1, 1)) ∧ (decode cL_law 1859 = .ok (.iadd, 1)) ∧ (decode cL_law 1860 = .ok (.iaload, 1)) ∧ (decode cL_law 1861 = .ok (.aload_n 0, 1)) ∧ (decode cL_law 1862 = .ok (.iload 4, 2)) ∧ (decode cL_law 1864 = .ok (.iconst 2, 1)) ∧ (decode cL_law 1865 = .ok (.iadd, 1)) ∧ (decode cL_law 1866 = .ok (.iaload, 1)) := by decide +kernel
theorem dL_law_1858 : decode cL_law 1858 = .ok (.iconst 1, 1) := dG_law_114.1
theorem dL_law_1859 : decode cL_law 1859 = .ok (.iadd, 1) := dG_law_114.2.1
theorem dL_law_1860 : decode cL_law 1860 = .ok (.iaload, 1) := dG_law_114.2.2.1
theorem dL_law_1861 : decode cL_law 1861 = .ok (.aload_n 0, 1) := dG_law_114.2.2.2.1
theorem dL_law_1862 : decode cL_law 1862 = .ok (.iload 4, 2) := dG_law_114.2.2.2.2.1
theorem dL_law_1864 : decode cL_law 1864 = .ok (.iconst 2, 1) := dG_law_114.2.2.2.2.2.1
theorem dL_law_1865 : decode cL_law 1865 = .ok (.iadd, 1) := dG_law_114.2.2.2.2.2.2.1
theorem dL_law_1866 : decode cL_law 1866 = .ok (.iaload, 1) := dG_law_114.2.2.2.2.2.2.2
set_option maxRecDepth 20000 in
theorem dG_law_115 : (decode cL_law 1867 = .ok (.invokevirtual 268, 3)) ∧ (decode cL_law 1870 = .ok (.istore 6, 2)) ∧ (decode cL_law 1872 = .ok (.aload_n 2, 1)) ∧ (decode cL_law 1873 = .ok (.invokevirtual 148, 3)) ∧ (decode cL_law 1876 = .ok (.iload 5, 2)) ∧ (decode cL_law 1878 = .ok (.if_icmp .eq 5, 3)) ∧ (decode cL_law 1883 = .ok (.iload 5, 2)) ∧ (decode cL_law 1885 = .ok (.ifCond .ne 15, 3)) := by decide +kernel
theorem dL_law_1867 : decode cL_law 1867 = .ok (.invokevirtual 268, 3) := dG_law_115.1
theorem dL_law_1870 : decode cL_law 1870 = .ok (.istore 6, 2) := dG_law_115.2.1
theorem dL_law_1872 : decode cL_law 1872 = .ok (.aload_n 2, 1) := dG_law_115.2.2.1
theorem dL_law_1873 : decode cL_law 1873 = .ok (.invokevirtual 148, 3) := dG_law_115.2.2.2.1
theorem dL_law_1876 : decode cL_law 1876 = .ok (.iload 5, 2) := dG_law_115.2.2.2.2.1
theorem dL_law_1878 : decode cL_law 1878 = .ok (.if_icmp .eq 5, 3) := dG_law_115.2.2.2.2.2.1
theorem dL_law_1883 : decode cL_law 1883 = .ok (.iload 5, 2) := dG_law_115.2.2.2.2.2.2.1
theorem dL_law_1885 : decode cL_law 1885 = .ok (.ifCond .ne 15, 3) := dG_law_115.2.2.2.2.2.2.2
set_option maxRecDepth 20000 in
theorem dG_law_116 : (decode cL_law 1888 = .ok (.aload_n 3, 1)) ∧ (decode cL_law 1889 = .ok (.iconst 0, 1)) ∧ (decode cL_law 1890 = .ok (.laload, 1)) ∧ (decode cL_law 1891 = .ok (.iload 6, 2)) ∧ (decode cL_law 1893 = .ok (.i2l, 1)) ∧ (decode cL_law 1894 = .ok (.lcmp, 1)) ∧ (decode cL_law 1895 = .ok (.ifCond .eq 5, 3)) ∧ (decode cL_law 1900 = .ok (.goto 1300, 3)) := by decide +kernel
theorem dL_law_1888 : decode cL_law 1888 = .ok (.aload_n 3, 1) := dG_law_116.1
theorem dL_law_1889 : decode cL_law 1889 = .ok (.iconst 0, 1) := dG_law_116.2.1
theorem dL_law_1890 : decode cL_law 1890 = .ok (.laload, 1) := dG_law_116.2.2.1
theorem dL_law_1891 : decode cL_law 1891 = .ok (.iload 6, 2) := dG_law_116.2.2.2.1
theorem dL_law_1893 : decode cL_law 1893 = .ok (.i2l, 1) := dG_law_116.2.2.2.2.1
theorem dL_law_1894 : decode cL_law 1894 = .ok (.lcmp, 1) := dG_law_116.2.2.2.2.2.1
theorem dL_law_1895 : decode cL_law 1895 = .ok (.ifCond .eq 5, 3) := dG_law_116.2.2.2.2.2.2.1
theorem dL_law_1900 : decode cL_law 1900 = .ok (.goto 1300, 3) := dG_law_116.2.2.2.2.2.2.2
set_option maxRecDepth 20000 in
theorem dG_law_117 : (decode cL_law 1903 = .ok (.aload_n 1, 1)) ∧ (decode cL_law 1904 = .ok (.aload_n 0, 1)) ∧ (decode cL_law 1905 = .ok (.iload 4, 2)) ∧ (decode cL_law 1907 = .ok (.iconst 1, 1)) ∧ (decode cL_law 1908 = .ok (.iadd, 1)) ∧ (decode cL_law 1909 = .ok (.iaload, 1)) ∧ (decode cL_law 1910 = .ok (.aload_n 0, 1)) ∧ (decode cL_law 1911 = .ok (.iload 4, 2)) := by decide +kernel
theorem dL_law_1903 : decode cL_law 1903 = .ok (.aload_n 1, 1) := dG_law_117.1
theorem dL_law_1904 : decode cL_law 1904 = .ok (.aload_n 0, 1) := dG_law_117.2.1
theorem dL_law_1905 : decode cL_law 1905 = .ok (.iload 4, 2) := dG_law_117.2.2.1
theorem dL_law_1907 : decode cL_law 1907 = .ok (.iconst 1, 1) := dG_law_117.2.2.2.1
theorem dL_law_1908 : decode cL_law 1908 = .ok (.iadd, 1) := dG_law_117.2.2.2.2.1
theorem dL_law_1909 : decode cL_law 1909 = .ok (.iaload, 1) := dG_law_117.2.2.2.2.2.1
theorem dL_law_1910 : decode cL_law 1910 = .ok (.aload_n 0, 1) := dG_law_117.2.2.2.2.2.2.1
theorem dL_law_1911 : decode cL_law 1911 = .ok (.iload 4, 2) := dG_law_117.2.2.2.2.2.2.2
set_option maxRecDepth 20000 in
theorem dG_law_118 : (decode cL_law 1913 = .ok (.iconst 2, 1)) ∧ (decode cL_law 1914 = .ok (.iadd, 1)) ∧ (decode cL_law 1915 = .ok (.iaload, 1)) ∧ (decode cL_law 1916 = .ok (.aload_n 3, 1)) ∧ (decode cL_law 1917 = .ok (.invokestatic 269, 3)) ∧ (decode cL_law 1920 = .ok (.istore 5, 2)) ∧ (decode cL_law 1922 = .ok (.aload_n 2, 1)) ∧ (decode cL_law 1923 = .ok (.aload_n 0, 1)) := by decide +kernel
theorem dL_law_1913 : decode cL_law 1913 = .ok (.iconst 2, 1) := dG_law_118.1
theorem dL_law_1914 : decode cL_law 1914 = .ok (.iadd, 1) := dG_law_118.2.1
theorem dL_law_1915 : decode cL_law 1915 = .ok (.iaload, 1) := dG_law_118.2.2.1
theorem dL_law_1916 : decode cL_law 1916 = .ok (.aload_n 3, 1) := dG_law_118.2.2.2.1
theorem dL_law_1917 : decode cL_law 1917 = .ok (.invokestatic 269, 3) := dG_law_118.2.2.2.2.1
theorem dL_law_1920 : decode cL_law 1920 = .ok (.istore 5, 2) := dG_law_118.2.2.2.2.2.1
theorem dL_law_1922 : decode cL_law 1922 = .ok (.aload_n 2, 1) := dG_law_118.2.2.2.2.2.2.1
theorem dL_law_1923 : decode cL_law 1923 = .ok (.aload_n 0, 1) := dG_law_118.2.2.2.2.2.2.2
set_option maxRecDepth 20000 in
theorem dG_law_119 : (decode cL_law 1924 = .ok (.iload 4, 2)) ∧ (decode cL_law 1926 = .ok (.iconst 1, 1)) ∧ (decode cL_law 1927 = .ok (.iadd, 1)) ∧ (decode cL_law 1928 = .ok (.iaload, 1)) ∧ (decode cL_law 1929 = .ok (.aload_n 0, 1)) ∧ (decode cL_law 1930 = .ok (.iload 4, 2)) ∧ (decode cL_law 1932 = .ok (.iconst 2, 1)) ∧ (decode cL_law 1933 = .ok (.iadd, 1)) := by decide +kernel
theorem dL_law_1924 : decode cL_law 1924 = .ok (.iload 4, 2) := dG_law_119.1
theorem dL_law_1926 : decode cL_law 1926 = .ok (.iconst 1, 1) := dG_law_119.2.1
theorem dL_law_1927 : decode cL_law 1927 = .ok (.iadd, 1) := dG_law_119.2.2.1
theorem dL_law_1928 : decode cL_law 1928 = .ok (.iaload, 1) := dG_law_119.2.2.2.1
theorem dL_law_1929 : decode cL_law 1929 = .ok (.aload_n 0, 1) := dG_law_119.2.2.2.2.1
theorem dL_law_1930 : decode cL_law 1930 = .ok (.iload 4, 2) := dG_law_119.2.2.2.2.2.1
theorem dL_law_1932 : decode cL_law 1932 = .ok (.iconst 2, 1) := dG_law_119.2.2.2.2.2.2.1
theorem dL_law_1933 : decode cL_law 1933 = .ok (.iadd, 1) := dG_law_119.2.2.2.2.2.2.2
set_option maxRecDepth 20000 in
theorem dG_law_120 : (decode cL_law 1934 = .ok (.iaload, 1)) ∧ (decode cL_law 1935 = .ok (.invokevirtual 271, 3)) ∧ (decode cL_law 1938 = .ok (.istore 6, 2)) ∧ (decode cL_law 1940 = .ok (.aload_n 2, 1)) ∧ (decode cL_law 1941 = .ok (.invokevirtual 148, 3)) ∧ (decode cL_law 1944 = .ok (.iload 5, 2)) ∧ (decode cL_law 1946 = .ok (.if_icmp .eq 5, 3)) ∧ (decode cL_law 1951 = .ok (.iload 5, 2)) := by decide +kernel
theorem dL_law_1934 : decode cL_law 1934 = .ok (.iaload, 1) := dG_law_120.1
theorem dL_law_1935 : decode cL_law 1935 = .ok (.invokevirtual 271, 3) := dG_law_120.2.1
theorem dL_law_1938 : decode cL_law 1938 = .ok (.istore 6, 2) := dG_law_120.2.2.1
theorem dL_law_1940 : decode cL_law 1940 = .ok (.aload_n 2, 1) := dG_law_120.2.2.2.1
theorem dL_law_1941 : decode cL_law 1941 = .ok (.invokevirtual 148, 3) := dG_law_120.2.2.2.2.1
theorem dL_law_1944 : decode cL_law 1944 = .ok (.iload 5, 2) := dG_law_120.2.2.2.2.2.1
theorem dL_law_1946 : decode cL_law 1946 = .ok (.if_icmp .eq 5, 3) := dG_law_120.2.2.2.2.2.2.1
theorem dL_law_1951 : decode cL_law 1951 = .ok (.iload 5, 2) := dG_law_120.2.2.2.2.2.2.2
set_option maxRecDepth 20000 in
theorem dG_law_121 : (decode cL_law 1953 = .ok (.ifCond .ne 15, 3)) ∧ (decode cL_law 1956 = .ok (.aload_n 3, 1)) ∧ (decode cL_law 1957 = .ok (.iconst 0, 1)) ∧ (decode cL_law 1958 = .ok (.laload, 1)) ∧ (decode cL_law 1959 = .ok (.iload 6, 2)) ∧ (decode cL_law 1961 = .ok (.i2l, 1)) ∧ (decode cL_law 1962 = .ok (.lcmp, 1)) ∧ (decode cL_law 1963 = .ok (.ifCond .eq 5, 3)) := by decide +kernel
theorem dL_law_1953 : decode cL_law 1953 = .ok (.ifCond .ne 15, 3) := dG_law_121.1
theorem dL_law_1956 : decode cL_law 1956 = .ok (.aload_n 3, 1) := dG_law_121.2.1
theorem dL_law_1957 : decode cL_law 1957 = .ok (.iconst 0, 1) := dG_law_121.2.2.1
theorem dL_law_1958 : decode cL_law 1958 = .ok (.laload, 1) := dG_law_121.2.2.2.1
theorem dL_law_1959 : decode cL_law 1959 = .ok (.iload 6, 2) := dG_law_121.2.2.2.2.1
theorem dL_law_1961 : decode cL_law 1961 = .ok (.i2l, 1) := dG_law_121.2.2.2.2.2.1
theorem dL_law_1962 : decode cL_law 1962 = .ok (.lcmp, 1) := dG_law_121.2.2.2.2.2.2.1
theorem dL_law_1963 : decode cL_law 1963 = .ok (.ifCond .eq 5, 3) := dG_law_121.2.2.2.2.2.2.2
set_option maxRecDepth 20000 in
theorem dG_law_122 : (decode cL_law 1968 = .ok (.goto 1232, 3)) ∧ (decode cL_law 1971 = .ok (.aload_n 1, 1)) ∧ (decode cL_law 1972 = .ok (.aload_n 0, 1)) ∧ (decode cL_law 1973 = .ok (.iload 4, 2)) ∧ (decode cL_law 1975 = .ok (.iconst 1, 1)) ∧ (decode cL_law 1976 = .ok (.iadd, 1)) ∧ (decode cL_law 1977 = .ok (.iaload, 1)) ∧ (decode cL_law 1978 = .ok (.aload_n 0, 1)) := by decide +kernel
theorem dL_law_1968 : decode cL_law 1968 = .ok (.goto 1232, 3) := dG_law_122.1
theorem dL_law_1971 : decode cL_law 1971 = .ok (.aload_n 1, 1) := dG_law_122.2.1
theorem dL_law_1972 : decode cL_law 1972 = .ok (.aload_n 0, 1) := dG_law_122.2.2.1
theorem dL_law_1973 : decode cL_law 1973 = .ok (.iload 4, 2) := dG_law_122.2.2.2.1
theorem dL_law_1975 : decode cL_law 1975 = .ok (.iconst 1, 1) := dG_law_122.2.2.2.2.1
theorem dL_law_1976 : decode cL_law 1976 = .ok (.iadd, 1) := dG_law_122.2.2.2.2.2.1
theorem dL_law_1977 : decode cL_law 1977 = .ok (.iaload, 1) := dG_law_122.2.2.2.2.2.2.1
theorem dL_law_1978 : decode cL_law 1978 = .ok (.aload_n 0, 1) := dG_law_122.2.2.2.2.2.2.2
set_option maxRecDepth 20000 in
theorem dG_law_123 : (decode cL_law 1979 = .ok (.iload 4, 2)) ∧ (decode cL_law 1981 = .ok (.iconst 2, 1)) ∧ (decode cL_law 1982 = .ok (.iadd, 1)) ∧ (decode cL_law 1983 = .ok (.iaload, 1)) ∧ (decode cL_law 1984 = .ok (.aload_n 3, 1)) ∧ (decode cL_law 1985 = .ok (.invokestatic 272, 3)) ∧ (decode cL_law 1988 = .ok (.istore 5, 2)) ∧ (decode cL_law 1990 = .ok (.aload_n 2, 1)) := by decide +kernel
theorem dL_law_1979 : decode cL_law 1979 = .ok (.iload 4, 2) := dG_law_123.1
theorem dL_law_1981 : decode cL_law 1981 = .ok (.iconst 2, 1) := dG_law_123.2.1
theorem dL_law_1982 : decode cL_law 1982 = .ok (.iadd, 1) := dG_law_123.2.2.1
theorem dL_law_1983 : decode cL_law 1983 = .ok (.iaload, 1) := dG_law_123.2.2.2.1
theorem dL_law_1984 : decode cL_law 1984 = .ok (.aload_n 3, 1) := dG_law_123.2.2.2.2.1
theorem dL_law_1985 : decode cL_law 1985 = .ok (.invokestatic 272, 3) := dG_law_123.2.2.2.2.2.1
theorem dL_law_1988 : decode cL_law 1988 = .ok (.istore 5, 2) := dG_law_123.2.2.2.2.2.2.1
theorem dL_law_1990 : decode cL_law 1990 = .ok (.aload_n 2, 1) := dG_law_123.2.2.2.2.2.2.2
set_option maxRecDepth 20000 in
theorem dG_law_124 : (decode cL_law 1991 = .ok (.aload_n 0, 1)) ∧ (decode cL_law 1992 = .ok (.iload 4, 2)) ∧ (decode cL_law 1994 = .ok (.iconst 1, 1)) ∧ (decode cL_law 1995 = .ok (.iadd, 1)) ∧ (decode cL_law 1996 = .ok (.iaload, 1)) ∧ (decode cL_law 1997 = .ok (.aload_n 0, 1)) ∧ (decode cL_law 1998 = .ok (.iload 4, 2)) ∧ (decode cL_law 2000 = .ok (.iconst 2, 1)) := by decide +kernel
theorem dL_law_1991 : decode cL_law 1991 = .ok (.aload_n 0, 1) := dG_law_124.1
theorem dL_law_1992 : decode cL_law 1992 = .ok (.iload 4, 2) := dG_law_124.2.1
theorem dL_law_1994 : decode cL_law 1994 = .ok (.iconst 1, 1) := dG_law_124.2.2.1
theorem dL_law_1995 : decode cL_law 1995 = .ok (.iadd, 1) := dG_law_124.2.2.2.1
theorem dL_law_1996 : decode cL_law 1996 = .ok (.iaload, 1) := dG_law_124.2.2.2.2.1
theorem dL_law_1997 : decode cL_law 1997 = .ok (.aload_n 0, 1) := dG_law_124.2.2.2.2.2.1
theorem dL_law_1998 : decode cL_law 1998 = .ok (.iload 4, 2) := dG_law_124.2.2.2.2.2.2.1
theorem dL_law_2000 : decode cL_law 2000 = .ok (.iconst 2, 1) := dG_law_124.2.2.2.2.2.2.2
set_option maxRecDepth 20000 in
theorem dG_law_125 : (decode cL_law 2001 = .ok (.iadd, 1)) ∧ (decode cL_law 2002 = .ok (.iaload, 1)) ∧ (decode cL_law 2003 = .ok (.invokevirtual 274, 3)) ∧ (decode cL_law 2006 = .ok (.istore 6, 2)) ∧ (decode cL_law 2008 = .ok (.aload_n 2, 1)) ∧ (decode cL_law 2009 = .ok (.invokevirtual 148, 3)) ∧ (decode cL_law 2012 = .ok (.iload 5, 2)) ∧ (decode cL_law 2014 = .ok (.if_icmp .eq 5, 3)) := by decide +kernel
theorem dL_law_2001 : decode cL_law 2001 = .ok (.iadd, 1) := dG_law_125.1
theorem dL_law_2002 : decode cL_law 2002 = .ok (.iaload, 1) := dG_law_125.2.1
theorem dL_law_2003 : decode cL_law 2003 = .ok (.invokevirtual 274, 3) := dG_law_125.2.2.1
theorem dL_law_2006 : decode cL_law 2006 = .ok (.istore 6, 2) := dG_law_125.2.2.2.1
theorem dL_law_2008 : decode cL_law 2008 = .ok (.aload_n 2, 1) := dG_law_125.2.2.2.2.1
theorem dL_law_2009 : decode cL_law 2009 = .ok (.invokevirtual 148, 3) := dG_law_125.2.2.2.2.2.1
theorem dL_law_2012 : decode cL_law 2012 = .ok (.iload 5, 2) := dG_law_125.2.2.2.2.2.2.1
theorem dL_law_2014 : decode cL_law 2014 = .ok (.if_icmp .eq 5, 3) := dG_law_125.2.2.2.2.2.2.2
set_option maxRecDepth 20000 in
theorem dG_law_126 : (decode cL_law 2019 = .ok (.iload 5, 2)) ∧ (decode cL_law 2021 = .ok (.ifCond .ne 15, 3)) ∧ (decode cL_law 2024 = .ok (.aload_n 3, 1)) ∧ (decode cL_law 2025 = .ok (.iconst 0, 1)) ∧ (decode cL_law 2026 = .ok (.laload, 1)) ∧ (decode cL_law 2027 = .ok (.iload 6, 2)) ∧ (decode cL_law 2029 = .ok (.i2l, 1)) ∧ (decode cL_law 2030 = .ok (.lcmp, 1)) := by decide +kernel
theorem dL_law_2019 : decode cL_law 2019 = .ok (.iload 5, 2) := dG_law_126.1
theorem dL_law_2021 : decode cL_law 2021 = .ok (.ifCond .ne 15, 3) := dG_law_126.2.1
theorem dL_law_2024 : decode cL_law 2024 = .ok (.aload_n 3, 1) := dG_law_126.2.2.1
theorem dL_law_2025 : decode cL_law 2025 = .ok (.iconst 0, 1) := dG_law_126.2.2.2.1
theorem dL_law_2026 : decode cL_law 2026 = .ok (.laload, 1) := dG_law_126.2.2.2.2.1
theorem dL_law_2027 : decode cL_law 2027 = .ok (.iload 6, 2) := dG_law_126.2.2.2.2.2.1
theorem dL_law_2029 : decode cL_law 2029 = .ok (.i2l, 1) := dG_law_126.2.2.2.2.2.2.1
theorem dL_law_2030 : decode cL_law 2030 = .ok (.lcmp, 1) := dG_law_126.2.2.2.2.2.2.2
set_option maxRecDepth 20000 in
theorem dG_law_127 : (decode cL_law 2031 = .ok (.ifCond .eq 5, 3)) ∧ (decode cL_law 2036 = .ok (.goto 1164, 3)) ∧ (decode cL_law 2039 = .ok (.aload_n 1, 1)) ∧ (decode cL_law 2040 = .ok (.invokevirtual 275, 3)) ∧ (decode cL_law 2043 = .ok (.aload_n 2, 1)) ∧ (decode cL_law 2044 = .ok (.invokevirtual 278, 3)) ∧ (decode cL_law 2047 = .ok (.if_icmp .eq 1153, 3)) ∧ (decode cL_law 2052 = .ok (.aload_n 1, 1)) := by decide +kernel
theorem dL_law_2031 : decode cL_law 2031 = .ok (.ifCond .eq 5, 3) := dG_law_127.1
theorem dL_law_2036 : decode cL_law 2036 = .ok (.goto 1164, 3) := dG_law_127.2.1
theorem dL_law_2039 : decode cL_law 2039 = .ok (.aload_n 1, 1) := dG_law_127.2.2.1
theorem dL_law_2040 : decode cL_law 2040 = .ok (.invokevirtual 275, 3) := dG_law_127.2.2.2.1
theorem dL_law_2043 : decode cL_law 2043 = .ok (.aload_n 2, 1) := dG_law_127.2.2.2.2.1
theorem dL_law_2044 : decode cL_law 2044 = .ok (.invokevirtual 278, 3) := dG_law_127.2.2.2.2.2.1
theorem dL_law_2047 : decode cL_law 2047 = .ok (.if_icmp .eq 1153, 3) := dG_law_127.2.2.2.2.2.2.1
theorem dL_law_2052 : decode cL_law 2052 = .ok (.aload_n 1, 1) := dG_law_127.2.2.2.2.2.2.2
set_option maxRecDepth 20000 in
theorem dG_law_128 : (decode cL_law 2053 = .ok (.invokevirtual 279, 3)) ∧ (decode cL_law 2056 = .ok (.aload_n 2, 1)) ∧ (decode cL_law 2057 = .ok (.invokevirtual 282, 3)) ∧ (decode cL_law 2060 = .ok (.if_icmp .eq 1140, 3)) ∧ (decode cL_law 2065 = .ok (.aload_n 1, 1)) ∧ (decode cL_law 2066 = .ok (.invokevirtual 283, 3)) ∧ (decode cL_law 2069 = .ok (.aload_n 2, 1)) ∧ (decode cL_law 2070 = .ok (.invokevirtual 286, 3)) := by decide +kernel
theorem dL_law_2053 : decode cL_law 2053 = .ok (.invokevirtual 279, 3) := dG_law_128.1
theorem dL_law_2056 : decode cL_law 2056 = .ok (.aload_n 2, 1) := dG_law_128.2.1
theorem dL_law_2057 : decode cL_law 2057 = .ok (.invokevirtual 282, 3) := dG_law_128.2.2.1
theorem dL_law_2060 : decode cL_law 2060 = .ok (.if_icmp .eq 1140, 3) := dG_law_128.2.2.2.1
theorem dL_law_2065 : decode cL_law 2065 = .ok (.aload_n 1, 1) := dG_law_128.2.2.2.2.1
theorem dL_law_2066 : decode cL_law 2066 = .ok (.invokevirtual 283, 3) := dG_law_128.2.2.2.2.2.1
theorem dL_law_2069 : decode cL_law 2069 = .ok (.aload_n 2, 1) := dG_law_128.2.2.2.2.2.2.1
theorem dL_law_2070 : decode cL_law 2070 = .ok (.invokevirtual 286, 3) := dG_law_128.2.2.2.2.2.2.2
set_option maxRecDepth 20000 in
theorem dG_law_129 : (decode cL_law 2073 = .ok (.if_icmp .eq 1127, 3)) ∧ (decode cL_law 2078 = .ok (.aload_n 1, 1)) ∧ (decode cL_law 2079 = .ok (.invokevirtual 287, 3)) ∧ (decode cL_law 2082 = .ok (.dstore 5, 2)) ∧ (decode cL_law 2084 = .ok (.aload_n 2, 1)) ∧ (decode cL_law 2085 = .ok (.invokevirtual 291, 3)) ∧ (decode cL_law 2088 = .ok (.dstore 7, 2)) ∧ (decode cL_law 2090 = .ok (.dload 5, 2)) := by decide +kernel
theorem dL_law_2073 : decode cL_law 2073 = .ok (.if_icmp .eq 1127, 3) := dG_law_129.1
theorem dL_law_2078 : decode cL_law 2078 = .ok (.aload_n 1, 1) := dG_law_129.2.1
theorem dL_law_2079 : decode cL_law 2079 = .ok (.invokevirtual 287, 3) := dG_law_129.2.2.1
theorem dL_law_2082 : decode cL_law 2082 = .ok (.dstore 5, 2) := dG_law_129.2.2.2.1
theorem dL_law_2084 : decode cL_law 2084 = .ok (.aload_n 2, 1) := dG_law_129.2.2.2.2.1
theorem dL_law_2085 : decode cL_law 2085 = .ok (.invokevirtual 291, 3) := dG_law_129.2.2.2.2.2.1
theorem dL_law_2088 : decode cL_law 2088 = .ok (.dstore 7, 2) := dG_law_129.2.2.2.2.2.2.1
theorem dL_law_2090 : decode cL_law 2090 = .ok (.dload 5, 2) := dG_law_129.2.2.2.2.2.2.2
set_option maxRecDepth 20000 in
theorem dG_law_130 : (decode cL_law 2092 = .ok (.dload 7, 2)) ∧ (decode cL_law 2094 = .ok (.dcmp .l, 1)) ∧ (decode cL_law 2095 = .ok (.ifCond .eq 21, 3)) ∧ (decode cL_law 2098 = .ok (.dload 5, 2)) ∧ (decode cL_law 2100 = .ok (.dload 5, 2)) ∧ (decode cL_law 2102 = .ok (.dcmp .l, 1)) ∧ (decode cL_law 2103 = .ok (.ifCond .eq 11, 3)) ∧ (decode cL_law 2106 = .ok (.dload 7, 2)) := by decide +kernel
theorem dL_law_2092 : decode cL_law 2092 = .ok (.dload 7, 2) := dG_law_130.1
theorem dL_law_2094 : decode cL_law 2094 = .ok (.dcmp .l, 1) := dG_law_130.2.1
theorem dL_law_2095 : decode cL_law 2095 = .ok (.ifCond .eq 21, 3) := dG_law_130.2.2.1
theorem dL_law_2098 : decode cL_law 2098 = .ok (.dload 5, 2) := dG_law_130.2.2.2.1
theorem dL_law_2100 : decode cL_law 2100 = .ok (.dload 5, 2) := dG_law_130.2.2.2.2.1
theorem dL_law_2102 : decode cL_law 2102 = .ok (.dcmp .l, 1) := dG_law_130.2.2.2.2.2.1
theorem dL_law_2103 : decode cL_law 2103 = .ok (.ifCond .eq 11, 3) := dG_law_130.2.2.2.2.2.2.1
theorem dL_law_2106 : decode cL_law 2106 = .ok (.dload 7, 2) := dG_law_130.2.2.2.2.2.2.2
set_option maxRecDepth 20000 in
theorem dG_law_131 : (decode cL_law 2108 = .ok (.dload 7, 2)) ∧ (decode cL_law 2110 = .ok (.dcmp .l, 1)) ∧ (decode cL_law 2111 = .ok (.ifCond .ne 5, 3)) ∧ (decode cL_law 2116 = .ok (.goto 1084, 3)) ∧ (decode cL_law 2119 = .ok (.aload_n 1, 1)) ∧ (decode cL_law 2120 = .ok (.invokevirtual 292, 3)) ∧ (decode cL_law 2123 = .ok (.f2d, 1)) ∧ (decode cL_law 2124 = .ok (.dstore 5, 2)) := by decide +kernel
theorem dL_law_2108 : decode cL_law 2108 = .ok (.dload 7, 2) := dG_law_131.1
theorem dL_law_2110 : decode cL_law 2110 = .ok (.dcmp .l, 1) := dG_law_131.2.1
theorem dL_law_2111 : decode cL_law 2111 = .ok (.ifCond .ne 5, 3) := dG_law_131.2.2.1
theorem dL_law_2116 : decode cL_law 2116 = .ok (.goto 1084, 3) := dG_law_131.2.2.2.1
theorem dL_law_2119 : decode cL_law 2119 = .ok (.aload_n 1, 1) := dG_law_131.2.2.2.2.1
theorem dL_law_2120 : decode cL_law 2120 = .ok (.invokevirtual 292, 3) := dG_law_131.2.2.2.2.2.1
theorem dL_law_2123 : decode cL_law 2123 = .ok (.f2d, 1) := dG_law_131.2.2.2.2.2.2.1
theorem dL_law_2124 : decode cL_law 2124 = .ok (.dstore 5, 2) := dG_law_131.2.2.2.2.2.2.2
set_option maxRecDepth 20000 in
theorem dG_law_132 : (decode cL_law 2126 = .ok (.aload_n 2, 1)) ∧ (decode cL_law 2127 = .ok (.invokevirtual 296, 3)) ∧ (decode cL_law 2130 = .ok (.f2d, 1)) ∧ (decode cL_law 2131 = .ok (.dstore 7, 2)) ∧ (decode cL_law 2133 = .ok (.dload 5, 2)) ∧ (decode cL_law 2135 = .ok (.dload 7, 2)) ∧ (decode cL_law 2137 = .ok (.dcmp .l, 1)) ∧ (decode cL_law 2138 = .ok (.ifCond .eq 21, 3)) := by decide +kernel
theorem dL_law_2126 : decode cL_law 2126 = .ok (.aload_n 2, 1) := dG_law_132.1
theorem dL_law_2127 : decode cL_law 2127 = .ok (.invokevirtual 296, 3) := dG_law_132.2.1
theorem dL_law_2130 : decode cL_law 2130 = .ok (.f2d, 1) := dG_law_132.2.2.1
theorem dL_law_2131 : decode cL_law 2131 = .ok (.dstore 7, 2) := dG_law_132.2.2.2.1
theorem dL_law_2133 : decode cL_law 2133 = .ok (.dload 5, 2) := dG_law_132.2.2.2.2.1
theorem dL_law_2135 : decode cL_law 2135 = .ok (.dload 7, 2) := dG_law_132.2.2.2.2.2.1
theorem dL_law_2137 : decode cL_law 2137 = .ok (.dcmp .l, 1) := dG_law_132.2.2.2.2.2.2.1
theorem dL_law_2138 : decode cL_law 2138 = .ok (.ifCond .eq 21, 3) := dG_law_132.2.2.2.2.2.2.2
set_option maxRecDepth 20000 in
theorem dG_law_133 : (decode cL_law 2141 = .ok (.dload 5, 2)) ∧ (decode cL_law 2143 = .ok (.dload 5, 2)) ∧ (decode cL_law 2145 = .ok (.dcmp .l, 1)) ∧ (decode cL_law 2146 = .ok (.ifCond .eq 11, 3)) ∧ (decode cL_law 2149 = .ok (.dload 7, 2)) ∧ (decode cL_law 2151 = .ok (.dload 7, 2)) ∧ (decode cL_law 2153 = .ok (.dcmp .l, 1)) ∧ (decode cL_law 2154 = .ok (.ifCond .ne 5, 3)) := by decide +kernel
theorem dL_law_2141 : decode cL_law 2141 = .ok (.dload 5, 2) := dG_law_133.1
theorem dL_law_2143 : decode cL_law 2143 = .ok (.dload 5, 2) := dG_law_133.2.1
theorem dL_law_2145 : decode cL_law 2145 = .ok (.dcmp .l, 1) := dG_law_133.2.2.1
theorem dL_law_2146 : decode cL_law 2146 = .ok (.ifCond .eq 11, 3) := dG_law_133.2.2.2.1
theorem dL_law_2149 : decode cL_law 2149 = .ok (.dload 7, 2) := dG_law_133.2.2.2.2.1
theorem dL_law_2151 : decode cL_law 2151 = .ok (.dload 7, 2) := dG_law_133.2.2.2.2.2.1
theorem dL_law_2153 : decode cL_law 2153 = .ok (.dcmp .l, 1) := dG_law_133.2.2.2.2.2.2.1
theorem dL_law_2154 : decode cL_law 2154 = .ok (.ifCond .ne 5, 3) := dG_law_133.2.2.2.2.2.2.2
set_option maxRecDepth 20000 in
theorem dG_law_134 : (decode cL_law 2159 = .ok (.goto 1041, 3)) ∧ (decode cL_law 2162 = .ok (.aload_n 1, 1)) ∧ (decode cL_law 2163 = .ok (.invokevirtual 297, 3)) ∧ (decode cL_law 2166 = .ok (.aload_n 2, 1)) ∧ (decode cL_law 2167 = .ok (.invokevirtual 300, 3)) ∧ (decode cL_law 2170 = .ok (.if_icmp .eq 1030, 3)) ∧ (decode cL_law 2175 = .ok (.aload_n 1, 1)) ∧ (decode cL_law 2176 = .ok (.aload_n 0, 1)) := by decide +kernel
theorem dL_law_2159 : decode cL_law 2159 = .ok (.goto 1041, 3) := dG_law_134.1
theorem dL_law_2162 : decode cL_law 2162 = .ok (.aload_n 1, 1) := dG_law_134.2.1
theorem dL_law_2163 : decode cL_law 2163 = .ok (.invokevirtual 297, 3) := dG_law_134.2.2.1
theorem dL_law_2166 : decode cL_law 2166 = .ok (.aload_n 2, 1) := dG_law_134.2.2.2.1
theorem dL_law_2167 : decode cL_law 2167 = .ok (.invokevirtual 300, 3) := dG_law_134.2.2.2.2.1
theorem dL_law_2170 : decode cL_law 2170 = .ok (.if_icmp .eq 1030, 3) := dG_law_134.2.2.2.2.2.1
theorem dL_law_2175 : decode cL_law 2175 = .ok (.aload_n 1, 1) := dG_law_134.2.2.2.2.2.2.1
theorem dL_law_2176 : decode cL_law 2176 = .ok (.aload_n 0, 1) := dG_law_134.2.2.2.2.2.2.2
set_option maxRecDepth 20000 in
theorem dG_law_135 : (decode cL_law 2177 = .ok (.iload 4, 2)) ∧ (decode cL_law 2179 = .ok (.iconst 1, 1)) ∧ (decode cL_law 2180 = .ok (.iadd, 1)) ∧ (decode cL_law 2181 = .ok (.iaload, 1)) ∧ (decode cL_law 2182 = .ok (.invokevirtual 301, 3)) ∧ (decode cL_law 2185 = .ok (.aload_n 2, 1)) ∧ (decode cL_law 2186 = .ok (.aload_n 0, 1)) ∧ (decode cL_law 2187 = .ok (.iload 4, 2)) := by decide +kernel
theorem dL_law_2177 : decode cL_law 2177 = .ok (.iload 4, 2) := dG_law_135.1
theorem dL_law_2179 : decode cL_law 2179 = .ok (.iconst 1, 1) := dG_law_135.2.1
theorem dL_law_2180 : decode cL_law 2180 = .ok (.iadd, 1) := dG_law_135.2.2.1
theorem dL_law_2181 : decode cL_law 2181 = .ok (.iaload, 1) := dG_law_135.2.2.2.1
theorem dL_law_2182 : decode cL_law 2182 = .ok (.invokevirtual 301, 3) := dG_law_135.2.2.2.2.1
theorem dL_law_2185 : decode cL_law 2185 = .ok (.aload_n 2, 1) := dG_law_135.2.2.2.2.2.1
theorem dL_law_2186 : decode cL_law 2186 = .ok (.aload_n 0, 1) := dG_law_135.2.2.2.2.2.2.1
theorem dL_law_2187 : decode cL_law 2187 = .ok (.iload 4, 2) := dG_law_135.2.2.2.2.2.2.2
set_option maxRecDepth 20000 in
theorem dG_law_136 : (decode cL_law 2189 = .ok (.iconst 1, 1)) ∧ (decode cL_law 2190 = .ok (.iadd, 1)) ∧ (decode cL_law 2191 = .ok (.iaload, 1)) ∧ (decode cL_law 2192 = .ok (.invokevirtual 304, 3)) ∧ (decode cL_law 2195 = .ok (.if_icmp .eq 1005, 3)) ∧ (decode cL_law 2200 = .ok (.aload_n 1, 1)) ∧ (decode cL_law 2201 = .ok (.aload_n 0, 1)) ∧ (decode cL_law 2202 = .ok (.iload 4, 2)) := by decide +kernel
theorem dL_law_2189 : decode cL_law 2189 = .ok (.iconst 1, 1) := dG_law_136.1
theorem dL_law_2190 : decode cL_law 2190 = .ok (.iadd, 1) := dG_law_136.2.1
theorem dL_law_2191 : decode cL_law 2191 = .ok (.iaload, 1) := dG_law_136.2.2.1
theorem dL_law_2192 : decode cL_law 2192 = .ok (.invokevirtual 304, 3) := dG_law_136.2.2.2.1
theorem dL_law_2195 : decode cL_law 2195 = .ok (.if_icmp .eq 1005, 3) := dG_law_136.2.2.2.2.1
theorem dL_law_2200 : decode cL_law 2200 = .ok (.aload_n 1, 1) := dG_law_136.2.2.2.2.2.1
theorem dL_law_2201 : decode cL_law 2201 = .ok (.aload_n 0, 1) := dG_law_136.2.2.2.2.2.2.1
theorem dL_law_2202 : decode cL_law 2202 = .ok (.iload 4, 2) := dG_law_136.2.2.2.2.2.2.2
set_option maxRecDepth 20000 in
theorem dG_law_137 : (decode cL_law 2204 = .ok (.iconst 1, 1)) ∧ (decode cL_law 2205 = .ok (.iadd, 1)) ∧ (decode cL_law 2206 = .ok (.iaload, 1)) ∧ (decode cL_law 2207 = .ok (.invokevirtual 305, 3)) ∧ (decode cL_law 2210 = .ok (.aload_n 2, 1)) ∧ (decode cL_law 2211 = .ok (.aload_n 0, 1)) ∧ (decode cL_law 2212 = .ok (.iload 4, 2)) ∧ (decode cL_law 2214 = .ok (.iconst 1, 1)) := by decide +kernel
theorem dL_law_2204 : decode cL_law 2204 = .ok (.iconst 1, 1) := dG_law_137.1
theorem dL_law_2205 : decode cL_law 2205 = .ok (.iadd, 1) := dG_law_137.2.1
theorem dL_law_2206 : decode cL_law 2206 = .ok (.iaload, 1) := dG_law_137.2.2.1
theorem dL_law_2207 : decode cL_law 2207 = .ok (.invokevirtual 305, 3) := dG_law_137.2.2.2.1
theorem dL_law_2210 : decode cL_law 2210 = .ok (.aload_n 2, 1) := dG_law_137.2.2.2.2.1
theorem dL_law_2211 : decode cL_law 2211 = .ok (.aload_n 0, 1) := dG_law_137.2.2.2.2.2.1
theorem dL_law_2212 : decode cL_law 2212 = .ok (.iload 4, 2) := dG_law_137.2.2.2.2.2.2.1
theorem dL_law_2214 : decode cL_law 2214 = .ok (.iconst 1, 1) := dG_law_137.2.2.2.2.2.2.2
set_option maxRecDepth 20000 in
theorem dG_law_138 : (decode cL_law 2215 = .ok (.iadd, 1)) ∧ (decode cL_law 2216 = .ok (.iaload, 1)) ∧ (decode cL_law 2217 = .ok (.invokevirtual 308, 3)) ∧ (decode cL_law 2220 = .ok (.if_icmp .eq 980, 3)) ∧ (decode cL_law 2225 = .ok (.aload_n 1, 1)) ∧ (decode cL_law 2226 = .ok (.aload_n 0, 1)) ∧ (decode cL_law 2227 = .ok (.iload 4, 2)) ∧ (decode cL_law 2229 = .ok (.iconst 1, 1)) := by decide +kernel
theorem dL_law_2215 : decode cL_law 2215 = .ok (.iadd, 1) := dG_law_138.1
theorem dL_law_2216 : decode cL_law 2216 = .ok (.iaload, 1) := dG_law_138.2.1
theorem dL_law_2217 : decode cL_law 2217 = .ok (.invokevirtual 308, 3) := dG_law_138.2.2.1
theorem dL_law_2220 : decode cL_law 2220 = .ok (.if_icmp .eq 980, 3) := dG_law_138.2.2.2.1
theorem dL_law_2225 : decode cL_law 2225 = .ok (.aload_n 1, 1) := dG_law_138.2.2.2.2.1
theorem dL_law_2226 : decode cL_law 2226 = .ok (.aload_n 0, 1) := dG_law_138.2.2.2.2.2.1
theorem dL_law_2227 : decode cL_law 2227 = .ok (.iload 4, 2) := dG_law_138.2.2.2.2.2.2.1
theorem dL_law_2229 : decode cL_law 2229 = .ok (.iconst 1, 1) := dG_law_138.2.2.2.2.2.2.2
set_option maxRecDepth 20000 in
theorem dG_law_139 : (decode cL_law 2230 = .ok (.iadd, 1)) ∧ (decode cL_law 2231 = .ok (.iaload, 1)) ∧ (decode cL_law 2232 = .ok (.invokevirtual 309, 3)) ∧ (decode cL_law 2235 = .ok (.aload_n 2, 1)) ∧ (decode cL_law 2236 = .ok (.aload_n 0, 1)) ∧ (decode cL_law 2237 = .ok (.iload 4, 2)) ∧ (decode cL_law 2239 = .ok (.iconst 1, 1)) ∧ (decode cL_law 2240 = .ok (.iadd, 1)) := by decide +kernel
theorem dL_law_2230 : decode cL_law 2230 = .ok (.iadd, 1) := dG_law_139.1
theorem dL_law_2231 : decode cL_law 2231 = .ok (.iaload, 1) := dG_law_139.2.1
theorem dL_law_2232 : decode cL_law 2232 = .ok (.invokevirtual 309, 3) := dG_law_139.2.2.1
theorem dL_law_2235 : decode cL_law 2235 = .ok (.aload_n 2, 1) := dG_law_139.2.2.2.1
theorem dL_law_2236 : decode cL_law 2236 = .ok (.aload_n 0, 1) := dG_law_139.2.2.2.2.1
theorem dL_law_2237 : decode cL_law 2237 = .ok (.iload 4, 2) := dG_law_139.2.2.2.2.2.1
theorem dL_law_2239 : decode cL_law 2239 = .ok (.iconst 1, 1) := dG_law_139.2.2.2.2.2.2.1
theorem dL_law_2240 : decode cL_law 2240 = .ok (.iadd, 1) := dG_law_139.2.2.2.2.2.2.2
set_option maxRecDepth 20000 in
theorem dG_law_140 : (decode cL_law 2241 = .ok (.iaload, 1)) ∧ (decode cL_law 2242 = .ok (.invokevirtual 312, 3)) ∧ (decode cL_law 2245 = .ok (.if_icmp .eq 955, 3)) ∧ (decode cL_law 2250 = .ok (.aload_n 1, 1)) ∧ (decode cL_law 2251 = .ok (.aload_n 0, 1)) ∧ (decode cL_law 2252 = .ok (.iload 4, 2)) ∧ (decode cL_law 2254 = .ok (.iconst 1, 1)) ∧ (decode cL_law 2255 = .ok (.iadd, 1)) := by decide +kernel
theorem dL_law_2241 : decode cL_law 2241 = .ok (.iaload, 1) := dG_law_140.1
theorem dL_law_2242 : decode cL_law 2242 = .ok (.invokevirtual 312, 3) := dG_law_140.2.1
theorem dL_law_2245 : decode cL_law 2245 = .ok (.if_icmp .eq 955, 3) := dG_law_140.2.2.1
theorem dL_law_2250 : decode cL_law 2250 = .ok (.aload_n 1, 1) := dG_law_140.2.2.2.1
theorem dL_law_2251 : decode cL_law 2251 = .ok (.aload_n 0, 1) := dG_law_140.2.2.2.2.1
theorem dL_law_2252 : decode cL_law 2252 = .ok (.iload 4, 2) := dG_law_140.2.2.2.2.2.1
theorem dL_law_2254 : decode cL_law 2254 = .ok (.iconst 1, 1) := dG_law_140.2.2.2.2.2.2.1
theorem dL_law_2255 : decode cL_law 2255 = .ok (.iadd, 1) := dG_law_140.2.2.2.2.2.2.2
set_option maxRecDepth 20000 in
theorem dG_law_141 : (decode cL_law 2256 = .ok (.iaload, 1)) ∧ (decode cL_law 2257 = .ok (.aload_n 0, 1)) ∧ (decode cL_law 2258 = .ok (.iload 4, 2)) ∧ (decode cL_law 2260 = .ok (.iconst 2, 1)) ∧ (decode cL_law 2261 = .ok (.iadd, 1)) ∧ (decode cL_law 2262 = .ok (.iaload, 1)) ∧ (decode cL_law 2263 = .ok (.aload_n 3, 1)) ∧ (decode cL_law 2264 = .ok (.invokestatic 313, 3)) := by decide +kernel
theorem dL_law_2256 : decode cL_law 2256 = .ok (.iaload, 1) := dG_law_141.1
theorem dL_law_2257 : decode cL_law 2257 = .ok (.aload_n 0, 1) := dG_law_141.2.1
theorem dL_law_2258 : decode cL_law 2258 = .ok (.iload 4, 2) := dG_law_141.2.2.1
theorem dL_law_2260 : decode cL_law 2260 = .ok (.iconst 2, 1) := dG_law_141.2.2.2.1
theorem dL_law_2261 : decode cL_law 2261 = .ok (.iadd, 1) := dG_law_141.2.2.2.2.1
theorem dL_law_2262 : decode cL_law 2262 = .ok (.iaload, 1) := dG_law_141.2.2.2.2.2.1
theorem dL_law_2263 : decode cL_law 2263 = .ok (.aload_n 3, 1) := dG_law_141.2.2.2.2.2.2.1
theorem dL_law_2264 : decode cL_law 2264 = .ok (.invokestatic 313, 3) := dG_law_141.2.2.2.2.2.2.2
set_option maxRecDepth 20000 in
theorem dG_law_142 : (decode cL_law 2267 = .ok (.istore 5, 2)) ∧ (decode cL_law 2269 = .ok (.aload_n 2, 1)) ∧ (decode cL_law 2270 = .ok (.aload_n 0, 1)) ∧ (decode cL_law 2271 = .ok (.iload 4, 2)) ∧ (decode cL_law 2273 = .ok (.iconst 1, 1)) ∧ (decode cL_law 2274 = .ok (.iadd, 1)) ∧ (decode cL_law 2275 = .ok (.iaload, 1)) ∧ (decode cL_law 2276 = .ok (.aload_n 0, 1)) := by decide +kernel
theorem dL_law_2267 : decode cL_law 2267 = .ok (.istore 5, 2) := dG_law_142.1
theorem dL_law_2269 : decode cL_law 2269 = .ok (.aload_n 2, 1) := dG_law_142.2.1
theorem dL_law_2270 : decode cL_law 2270 = .ok (.aload_n 0, 1) := dG_law_142.2.2.1
theorem dL_law_2271 : decode cL_law 2271 = .ok (.iload 4, 2) := dG_law_142.2.2.2.1
theorem dL_law_2273 : decode cL_law 2273 = .ok (.iconst 1, 1) := dG_law_142.2.2.2.2.1
theorem dL_law_2274 : decode cL_law 2274 = .ok (.iadd, 1) := dG_law_142.2.2.2.2.2.1
theorem dL_law_2275 : decode cL_law 2275 = .ok (.iaload, 1) := dG_law_142.2.2.2.2.2.2.1
theorem dL_law_2276 : decode cL_law 2276 = .ok (.aload_n 0, 1) := dG_law_142.2.2.2.2.2.2.2
set_option maxRecDepth 20000 in
theorem dG_law_143 : (decode cL_law 2277 = .ok (.iload 4, 2)) ∧ (decode cL_law 2279 = .ok (.iconst 2, 1)) ∧ (decode cL_law 2280 = .ok (.iadd, 1)) ∧ (decode cL_law 2281 = .ok (.iaload, 1)) ∧ (decode cL_law 2282 = .ok (.invokevirtual 315, 3)) ∧ (decode cL_law 2285 = .ok (.istore 6, 2)) ∧ (decode cL_law 2287 = .ok (.aload_n 2, 1)) ∧ (decode cL_law 2288 = .ok (.invokevirtual 148, 3)) := by decide +kernel
theorem dL_law_2277 : decode cL_law 2277 = .ok (.iload 4, 2) := dG_law_143.1
theorem dL_law_2279 : decode cL_law 2279 = .ok (.iconst 2, 1) := dG_law_143.2.1
theorem dL_law_2280 : decode cL_law 2280 = .ok (.iadd, 1) := dG_law_143.2.2.1
theorem dL_law_2281 : decode cL_law 2281 = .ok (.iaload, 1) := dG_law_143.2.2.2.1
theorem dL_law_2282 : decode cL_law 2282 = .ok (.invokevirtual 315, 3) := dG_law_143.2.2.2.2.1
theorem dL_law_2285 : decode cL_law 2285 = .ok (.istore 6, 2) := dG_law_143.2.2.2.2.2.1
theorem dL_law_2287 : decode cL_law 2287 = .ok (.aload_n 2, 1) := dG_law_143.2.2.2.2.2.2.1
theorem dL_law_2288 : decode cL_law 2288 = .ok (.invokevirtual 148, 3) := dG_law_143.2.2.2.2.2.2.2
set_option maxRecDepth 20000 in
theorem dG_law_144 : (decode cL_law 2291 = .ok (.iload 5, 2)) ∧ (decode cL_law 2293 = .ok (.if_icmp .eq 5, 3)) ∧ (decode cL_law 2298 = .ok (.iload 5, 2)) ∧ (decode cL_law 2300 = .ok (.ifCond .ne 15, 3)) ∧ (decode cL_law 2303 = .ok (.aload_n 3, 1)) ∧ (decode cL_law 2304 = .ok (.iconst 0, 1)) ∧ (decode cL_law 2305 = .ok (.laload, 1)) ∧ (decode cL_law 2306 = .ok (.iload 6, 2)) := by decide +kernel
theorem dL_law_2291 : decode cL_law 2291 = .ok (.iload 5, 2) := dG_law_144.1
theorem dL_law_2293 : decode cL_law 2293 = .ok (.if_icmp .eq 5, 3) := dG_law_144.2.1
theorem dL_law_2298 : decode cL_law 2298 = .ok (.iload 5, 2) := dG_law_144.2.2.1
theorem dL_law_2300 : decode cL_law 2300 = .ok (.ifCond .ne 15, 3) := dG_law_144.2.2.2.1
theorem dL_law_2303 : decode cL_law 2303 = .ok (.aload_n 3, 1) := dG_law_144.2.2.2.2.1
theorem dL_law_2304 : decode cL_law 2304 = .ok (.iconst 0, 1) := dG_law_144.2.2.2.2.2.1
theorem dL_law_2305 : decode cL_law 2305 = .ok (.laload, 1) := dG_law_144.2.2.2.2.2.2.1
theorem dL_law_2306 : decode cL_law 2306 = .ok (.iload 6, 2) := dG_law_144.2.2.2.2.2.2.2
set_option maxRecDepth 20000 in
theorem dG_law_145 : (decode cL_law 2308 = .ok (.i2l, 1)) ∧ (decode cL_law 2309 = .ok (.lcmp, 1)) ∧ (decode cL_law 2310 = .ok (.ifCond .eq 5, 3)) ∧ (decode cL_law 2315 = .ok (.goto 885, 3)) ∧ (decode cL_law 2318 = .ok (.aload_n 1, 1)) ∧ (decode cL_law 2319 = .ok (.aload_n 0, 1)) ∧ (decode cL_law 2320 = .ok (.iload 4, 2)) ∧ (decode cL_law 2322 = .ok (.iconst 1, 1)) := by decide +kernel
theorem dL_law_2308 : decode cL_law 2308 = .ok (.i2l, 1) := dG_law_145.1
theorem dL_law_2309 : decode cL_law 2309 = .ok (.lcmp, 1) := dG_law_145.2.1
theorem dL_law_2310 : decode cL_law 2310 = .ok (.ifCond .eq 5, 3) := dG_law_145.2.2.1
theorem dL_law_2315 : decode cL_law 2315 = .ok (.goto 885, 3) := dG_law_145.2.2.2.1
theorem dL_law_2318 : decode cL_law 2318 = .ok (.aload_n 1, 1) := dG_law_145.2.2.2.2.1
theorem dL_law_2319 : decode cL_law 2319 = .ok (.aload_n 0, 1) := dG_law_145.2.2.2.2.2.1
theorem dL_law_2320 : decode cL_law 2320 = .ok (.iload 4, 2) := dG_law_145.2.2.2.2.2.2.1
theorem dL_law_2322 : decode cL_law 2322 = .ok (.iconst 1, 1) := dG_law_145.2.2.2.2.2.2.2
set_option maxRecDepth 20000 in
theorem dG_law_146 : (decode cL_law 2323 = .ok (.iadd, 1)) ∧ (decode cL_law 2324 = .ok (.iaload, 1)) ∧ (decode cL_law 2325 = .ok (.aload_n 3, 1)) ∧ (decode cL_law 2326 = .ok (.invokestatic 316, 3)) ∧ (decode cL_law 2329 = .ok (.istore 5, 2)) ∧ (decode cL_law 2331 = .ok (.aload_n 2, 1)) ∧ (decode cL_law 2332 = .ok (.aload_n 0, 1)) ∧ (decode cL_law 2333 = .ok (.iload 4, 2)) := by decide +kernel
theorem dL_law_2323 : decode cL_law 2323 = .ok (.iadd, 1) := dG_law_146.1
theorem dL_law_2324 : decode cL_law 2324 = .ok (.iaload, 1) := dG_law_146.2.1
theorem dL_law_2325 : decode cL_law 2325 = .ok (.aload_n 3, 1) := dG_law_146.2.2.1
theorem dL_law_2326 : decode cL_law 2326 = .ok (.invokestatic 316, 3) := dG_law_146.2.2.2.1
theorem dL_law_2329 : decode cL_law 2329 = .ok (.istore 5, 2) := dG_law_146.2.2.2.2.1
theorem dL_law_2331 : decode cL_law 2331 = .ok (.aload_n 2, 1) := dG_law_146.2.2.2.2.2.1
theorem dL_law_2332 : decode cL_law 2332 = .ok (.aload_n 0, 1) := dG_law_146.2.2.2.2.2.2.1
theorem dL_law_2333 : decode cL_law 2333 = .ok (.iload 4, 2) := dG_law_146.2.2.2.2.2.2.2
set_option maxRecDepth 20000 in
theorem dG_law_147 : (decode cL_law 2335 = .ok (.iconst 1, 1)) ∧ (decode cL_law 2336 = .ok (.iadd, 1)) ∧ (decode cL_law 2337 = .ok (.iaload, 1)) ∧ (decode cL_law 2338 = .ok (.invokevirtual 318, 3)) ∧ (decode cL_law 2341 = .ok (.istore 6, 2)) ∧ (decode cL_law 2343 = .ok (.aload_n 2, 1)) ∧ (decode cL_law 2344 = .ok (.invokevirtual 148, 3)) ∧ (decode cL_law 2347 = .ok (.iload 5, 2)) := by decide +kernel
theorem dL_law_2335 : decode cL_law 2335 = .ok (.iconst 1, 1) := dG_law_147.1
theorem dL_law_2336 : decode cL_law 2336 = .ok (.iadd, 1) := dG_law_147.2.1
theorem dL_law_2337 : decode cL_law 2337 = .ok (.iaload, 1) := dG_law_147.2.2.1
theorem dL_law_2338 : decode cL_law 2338 = .ok (.invokevirtual 318, 3) := dG_law_147.2.2.2.1
theorem dL_law_2341 : decode cL_law 2341 = .ok (.istore 6, 2) := dG_law_147.2.2.2.2.1
theorem dL_law_2343 : decode cL_law 2343 = .ok (.aload_n 2, 1) := dG_law_147.2.2.2.2.2.1
theorem dL_law_2344 : decode cL_law 2344 = .ok (.invokevirtual 148, 3) := dG_law_147.2.2.2.2.2.2.1
theorem dL_law_2347 : decode cL_law 2347 = .ok (.iload 5, 2) := dG_law_147.2.2.2.2.2.2.2
set_option maxRecDepth 20000 in
theorem dG_law_148 : (decode cL_law 2349 = .ok (.if_icmp .eq 5, 3)) ∧ (decode cL_law 2354 = .ok (.iload 5, 2)) ∧ (decode cL_law 2356 = .ok (.ifCond .ne 15, 3)) ∧ (decode cL_law 2359 = .ok (.aload_n 3, 1)) ∧ (decode cL_law 2360 = .ok (.iconst 0, 1)) ∧ (decode cL_law 2361 = .ok (.laload, 1)) ∧ (decode cL_law 2362 = .ok (.iload 6, 2)) ∧ (decode cL_law 2364 = .ok (.i2l, 1)) := by decide +kernel
theorem dL_law_2349 : decode cL_law 2349 = .ok (.if_icmp .eq 5, 3) := dG_law_148.1
theorem dL_law_2354 : decode cL_law 2354 = .ok (.iload 5, 2) := dG_law_148.2.1
theorem dL_law_2356 : decode cL_law 2356 = .ok (.ifCond .ne 15, 3) := dG_law_148.2.2.1
theorem dL_law_2359 : decode cL_law 2359 = .ok (.aload_n 3, 1) := dG_law_148.2.2.2.1
theorem dL_law_2360 : decode cL_law 2360 = .ok (.iconst 0, 1) := dG_law_148.2.2.2.2.1
theorem dL_law_2361 : decode cL_law 2361 = .ok (.laload, 1) := dG_law_148.2.2.2.2.2.1
theorem dL_law_2362 : decode cL_law 2362 = .ok (.iload 6, 2) := dG_law_148.2.2.2.2.2.2.1
theorem dL_law_2364 : decode cL_law 2364 = .ok (.i2l, 1) := dG_law_148.2.2.2.2.2.2.2
set_option maxRecDepth 20000 in
theorem dG_law_149 : (decode cL_law 2365 = .ok (.lcmp, 1)) ∧ (decode cL_law 2366 = .ok (.ifCond .eq 5, 3)) ∧ (decode cL_law 2371 = .ok (.goto 829, 3)) ∧ (decode cL_law 2374 = .ok (.aload_n 1, 1)) ∧ (decode cL_law 2375 = .ok (.aload_n 0, 1)) ∧ (decode cL_law 2376 = .ok (.iload 4, 2)) ∧ (decode cL_law 2378 = .ok (.iconst 1, 1)) ∧ (decode cL_law 2379 = .ok (.iadd, 1)) := by decide +kernel
theorem dL_law_2365 : decode cL_law 2365 = .ok (.lcmp, 1) := dG_law_149.1
theorem dL_law_2366 : decode cL_law 2366 = .ok (.ifCond .eq 5, 3) := dG_law_149.2.1
theorem dL_law_2371 : decode cL_law 2371 = .ok (.goto 829, 3) := dG_law_149.2.2.1
theorem dL_law_2374 : decode cL_law 2374 = .ok (.aload_n 1, 1) := dG_law_149.2.2.2.1
theorem dL_law_2375 : decode cL_law 2375 = .ok (.aload_n 0, 1) := dG_law_149.2.2.2.2.1
theorem dL_law_2376 : decode cL_law 2376 = .ok (.iload 4, 2) := dG_law_149.2.2.2.2.2.1
theorem dL_law_2378 : decode cL_law 2378 = .ok (.iconst 1, 1) := dG_law_149.2.2.2.2.2.2.1
theorem dL_law_2379 : decode cL_law 2379 = .ok (.iadd, 1) := dG_law_149.2.2.2.2.2.2.2
set_option maxRecDepth 20000 in
theorem dG_law_150 : (decode cL_law 2380 = .ok (.iaload, 1)) ∧ (decode cL_law 2381 = .ok (.aload_n 3, 1)) ∧ (decode cL_law 2382 = .ok (.invokestatic 319, 3)) ∧ (decode cL_law 2385 = .ok (.istore 5, 2)) ∧ (decode cL_law 2387 = .ok (.aload_n 2, 1)) ∧ (decode cL_law 2388 = .ok (.aload_n 0, 1)) ∧ (decode cL_law 2389 = .ok (.iload 4, 2)) ∧ (decode cL_law 2391 = .ok (.iconst 1, 1)) := by decide +kernel
theorem dL_law_2380 : decode cL_law 2380 = .ok (.iaload, 1) := dG_law_150.1
theorem dL_law_2381 : decode cL_law 2381 = .ok (.aload_n 3, 1) := dG_law_150.2.1
theorem dL_law_2382 : decode cL_law 2382 = .ok (.invokestatic 319, 3) := dG_law_150.2.2.1
theorem dL_law_2385 : decode cL_law 2385 = .ok (.istore 5, 2) := dG_law_150.2.2.2.1
theorem dL_law_2387 : decode cL_law 2387 = .ok (.aload_n 2, 1) := dG_law_150.2.2.2.2.1
theorem dL_law_2388 : decode cL_law 2388 = .ok (.aload_n 0, 1) := dG_law_150.2.2.2.2.2.1
theorem dL_law_2389 : decode cL_law 2389 = .ok (.iload 4, 2) := dG_law_150.2.2.2.2.2.2.1
theorem dL_law_2391 : decode cL_law 2391 = .ok (.iconst 1, 1) := dG_law_150.2.2.2.2.2.2.2
set_option maxRecDepth 20000 in
theorem dG_law_151 : (decode cL_law 2392 = .ok (.iadd, 1)) ∧ (decode cL_law 2393 = .ok (.iaload, 1)) ∧ (decode cL_law 2394 = .ok (.invokevirtual 321, 3)) ∧ (decode cL_law 2397 = .ok (.istore 6, 2)) ∧ (decode cL_law 2399 = .ok (.aload_n 2, 1)) ∧ (decode cL_law 2400 = .ok (.invokevirtual 148, 3)) ∧ (decode cL_law 2403 = .ok (.iload 5, 2)) ∧ (decode cL_law 2405 = .ok (.if_icmp .eq 5, 3)) := by decide +kernel
theorem dL_law_2392 : decode cL_law 2392 = .ok (.iadd, 1) := dG_law_151.1
theorem dL_law_2393 : decode cL_law 2393 = .ok (.iaload, 1) := dG_law_151.2.1
theorem dL_law_2394 : decode cL_law 2394 = .ok (.invokevirtual 321, 3) := dG_law_151.2.2.1
theorem dL_law_2397 : decode cL_law 2397 = .ok (.istore 6, 2) := dG_law_151.2.2.2.1
theorem dL_law_2399 : decode cL_law 2399 = .ok (.aload_n 2, 1) := dG_law_151.2.2.2.2.1
theorem dL_law_2400 : decode cL_law 2400 = .ok (.invokevirtual 148, 3) := dG_law_151.2.2.2.2.2.1
theorem dL_law_2403 : decode cL_law 2403 = .ok (.iload 5, 2) := dG_law_151.2.2.2.2.2.2.1
theorem dL_law_2405 : decode cL_law 2405 = .ok (.if_icmp .eq 5, 3) := dG_law_151.2.2.2.2.2.2.2
set_option maxRecDepth 20000 in
theorem dG_law_152 : (decode cL_law 2410 = .ok (.iload 5, 2)) ∧ (decode cL_law 2412 = .ok (.ifCond .ne 15, 3)) ∧ (decode cL_law 2415 = .ok (.aload_n 3, 1)) ∧ (decode cL_law 2416 = .ok (.iconst 0, 1)) ∧ (decode cL_law 2417 = .ok (.laload, 1)) ∧ (decode cL_law 2418 = .ok (.iload 6, 2)) ∧ (decode cL_law 2420 = .ok (.i2l, 1)) ∧ (decode cL_law 2421 = .ok (.lcmp, 1)) := by decide +kernel
theorem dL_law_2410 : decode cL_law 2410 = .ok (.iload 5, 2) := dG_law_152.1
theorem dL_law_2412 : decode cL_law 2412 = .ok (.ifCond .ne 15, 3) := dG_law_152.2.1
theorem dL_law_2415 : decode cL_law 2415 = .ok (.aload_n 3, 1) := dG_law_152.2.2.1
theorem dL_law_2416 : decode cL_law 2416 = .ok (.iconst 0, 1) := dG_law_152.2.2.2.1
theorem dL_law_2417 : decode cL_law 2417 = .ok (.laload, 1) := dG_law_152.2.2.2.2.1
theorem dL_law_2418 : decode cL_law 2418 = .ok (.iload 6, 2) := dG_law_152.2.2.2.2.2.1
theorem dL_law_2420 : decode cL_law 2420 = .ok (.i2l, 1) := dG_law_152.2.2.2.2.2.2.1
theorem dL_law_2421 : decode cL_law 2421 = .ok (.lcmp, 1) := dG_law_152.2.2.2.2.2.2.2
set_option maxRecDepth 20000 in
theorem dG_law_153 : (decode cL_law 2422 = .ok (.ifCond .eq 5, 3)) ∧ (decode cL_law 2427 = .ok (.goto 773, 3)) ∧ (decode cL_law 2430 = .ok (.aload_n 1, 1)) ∧ (decode cL_law 2431 = .ok (.aload_n 0, 1)) ∧ (decode cL_law 2432 = .ok (.iload 4, 2)) ∧ (decode cL_law 2434 = .ok (.iconst 1, 1)) ∧ (decode cL_law 2435 = .ok (.iadd, 1)) ∧ (decode cL_law 2436 = .ok (.iaload, 1)) := by decide +kernel
theorem dL_law_2422 : decode cL_law 2422 = .ok (.ifCond .eq 5, 3) := dG_law_153.1
theorem dL_law_2427 : decode cL_law 2427 = .ok (.goto 773, 3) := dG_law_153.2.1
theorem dL_law_2430 : decode cL_law 2430 = .ok (.aload_n 1, 1) := dG_law_153.2.2.1
theorem dL_law_2431 : decode cL_law 2431 = .ok (.aload_n 0, 1) := dG_law_153.2.2.2.1
theorem dL_law_2432 : decode cL_law 2432 = .ok (.iload 4, 2) := dG_law_153.2.2.2.2.1
theorem dL_law_2434 : decode cL_law 2434 = .ok (.iconst 1, 1) := dG_law_153.2.2.2.2.2.1
theorem dL_law_2435 : decode cL_law 2435 = .ok (.iadd, 1) := dG_law_153.2.2.2.2.2.2.1
theorem dL_law_2436 : decode cL_law 2436 = .ok (.iaload, 1) := dG_law_153.2.2.2.2.2.2.2
set_option maxRecDepth 20000 in
theorem dG_law_154 : (decode cL_law 2437 = .ok (.aload_n 3, 1)) ∧ (decode cL_law 2438 = .ok (.invokestatic 322, 3)) ∧ (decode cL_law 2441 = .ok (.istore 5, 2)) ∧ (decode cL_law 2443 = .ok (.aload_n 2, 1)) ∧ (decode cL_law 2444 = .ok (.aload_n 0, 1)) ∧ (decode cL_law 2445 = .ok (.iload 4, 2)) ∧ (decode cL_law 2447 = .ok (.iconst 1, 1)) ∧ (decode cL_law 2448 = .ok (.iadd, 1)) := by decide +kernel
theorem dL_law_2437 : decode cL_law 2437 = .ok (.aload_n 3, 1) := dG_law_154.1
theorem dL_law_2438 : decode cL_law 2438 = .ok (.invokestatic 322, 3) := dG_law_154.2.1
theorem dL_law_2441 : decode cL_law 2441 = .ok (.istore 5, 2) := dG_law_154.2.2.1
theorem dL_law_2443 : decode cL_law 2443 = .ok (.aload_n 2, 1) := dG_law_154.2.2.2.1
theorem dL_law_2444 : decode cL_law 2444 = .ok (.aload_n 0, 1) := dG_law_154.2.2.2.2.1
theorem dL_law_2445 : decode cL_law 2445 = .ok (.iload 4, 2) := dG_law_154.2.2.2.2.2.1
theorem dL_law_2447 : decode cL_law 2447 = .ok (.iconst 1, 1) := dG_law_154.2.2.2.2.2.2.1
theorem dL_law_2448 : decode cL_law 2448 = .ok (.iadd, 1) := dG_law_154.2.2.2.2.2.2.2
set_option maxRecDepth 20000 in
theorem dG_law_155 : (decode cL_law 2449 = .ok (.iaload, 1)) ∧ (decode cL_law 2450 = .ok (.invokevirtual 324, 3)) ∧ (decode cL_law 2453 = .ok (.istore 6, 2)) ∧ (decode cL_law 2455 = .ok (.aload_n 2, 1)) ∧ (decode cL_law 2456 = .ok (.invokevirtual 148, 3)) ∧ (decode cL_law 2459 = .ok (.iload 5, 2)) ∧ (decode cL_law 2461 = .ok (.if_icmp .eq 5, 3)) ∧ (decode cL_law 2466 = .ok (.iload 5, 2)) := by decide +kernel
theorem dL_law_2449 : decode cL_law 2449 = .ok (.iaload, 1) := dG_law_155.1
theorem dL_law_2450 : decode cL_law 2450 = .ok (.invokevirtual 324, 3) := dG_law_155.2.1
theorem dL_law_2453 : decode cL_law 2453 = .ok (.istore 6, 2) := dG_law_155.2.2.1
theorem dL_law_2455 : decode cL_law 2455 = .ok (.aload_n 2, 1) := dG_law_155.2.2.2.1
theorem dL_law_2456 : decode cL_law 2456 = .ok (.invokevirtual 148, 3) := dG_law_155.2.2.2.2.1
theorem dL_law_2459 : decode cL_law 2459 = .ok (.iload 5, 2) := dG_law_155.2.2.2.2.2.1
theorem dL_law_2461 : decode cL_law 2461 = .ok (.if_icmp .eq 5, 3) := dG_law_155.2.2.2.2.2.2.1
theorem dL_law_2466 : decode cL_law 2466 = .ok (.iload 5, 2) := dG_law_155.2.2.2.2.2.2.2
set_option maxRecDepth 20000 in
theorem dG_law_156 : (decode cL_law 2468 = .ok (.ifCond .ne 15, 3)) ∧ (decode cL_law 2471 = .ok (.aload_n 3, 1)) ∧ (decode cL_law 2472 = .ok (.iconst 0, 1)) ∧ (decode cL_law 2473 = .ok (.laload, 1)) ∧ (decode cL_law 2474 = .ok (.iload 6, 2)) ∧ (decode cL_law 2476 = .ok (.i2l, 1)) ∧ (decode cL_law 2477 = .ok (.lcmp, 1)) ∧ (decode cL_law 2478 = .ok (.ifCond .eq 5, 3)) := by decide +kernel
theorem dL_law_2468 : decode cL_law 2468 = .ok (.ifCond .ne 15, 3) := dG_law_156.1
theorem dL_law_2471 : decode cL_law 2471 = .ok (.aload_n 3, 1) := dG_law_156.2.1
theorem dL_law_2472 : decode cL_law 2472 = .ok (.iconst 0, 1) := dG_law_156.2.2.1
theorem dL_law_2473 : decode cL_law 2473 = .ok (.laload, 1) := dG_law_156.2.2.2.1
theorem dL_law_2474 : decode cL_law 2474 = .ok (.iload 6, 2) := dG_law_156.2.2.2.2.1
theorem dL_law_2476 : decode cL_law 2476 = .ok (.i2l, 1) := dG_law_156.2.2.2.2.2.1
theorem dL_law_2477 : decode cL_law 2477 = .ok (.lcmp, 1) := dG_law_156.2.2.2.2.2.2.1
theorem dL_law_2478 : decode cL_law 2478 = .ok (.ifCond .eq 5, 3) := dG_law_156.2.2.2.2.2.2.2
