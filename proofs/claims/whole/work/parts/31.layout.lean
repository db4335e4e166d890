/-! The cells behind both constructors: 1..869 the class, 870..912 the reference. -/
def TT0 : List Sh := [.inl 11, .inr (.byte, 2000), .inr (.object RX4, 16), .inl 4, .inr (.long, 256), .inl 4, .inr (.long, 256), .inl 4, .inr (.long, 256), .inl 4, .inr (.long, 256), .inl 4, .inr (.long, 256), .inl 4, .inr (.long, 256), .inl 4, .inr (.long, 256), .inl 4, .inr (.long, 256), .inl 4, .inr (.long, 256), .inl 4, .inr (.long, 256), .inl 4, .inr (.long, 256), .inl 4, .inr (.long, 256), .inl 4, .inr (.long, 256), .inl 4, .inr (.long, 256), .inl 4, .inr (.long, 256), .inl 4, .inr (.long, 256), .inl 4, .inr (.long, 512), .inl 10, .inr (.long, 8), .inl 10, .inr (.long, 8), .inl 9, .inr (.byte, 2000), .inr (.int, 2000), .inr (.int, 2000), .inl 10, .inr (.long, 8), .inl 5, .inl 10, .inr (.long, 8), .inr (.long, 8), .inr (.long, 8), .inr (.long, 8), .inr (.long, 8), .inl 4, .inr (.long, 16), .inl 4, .inr (.long, 512), .inl 6, .inr (.byte, 2000), .inr (.object RX2, 10), .inl 2, .inr (.int, 6), .inl 2, .inr (.int, 6), .inl 2, .inr (.int, 6), .inl 2, .inr (.int, 6), .inl 2, .inr (.int, 6), .inl 2, .inr (.int, 6), .inl 2, .inr (.int, 6), .inl 2, .inr (.int, 6), .inl 2, .inr (.int, 6), .inl 2, .inr (.int, 6), .inr (.object RX7, 60), .inl 7, .inr (.long, 8), .inl 7, .inr (.long, 8), .inl 7, .inr (.long, 8), .inl 7, .inr (.long, 8), .inl 7, .inr (.long, 8), .inl 7, .inr (.long, 8), .inl 7, .inr (.long, 8), .inl 7, .inr (.long, 8), .inl 7, .inr (.long, 8)]
def TT1 : List Sh := [.inl 7, .inr (.long, 8), .inl 7, .inr (.long, 8), .inl 7, .inr (.long, 8), .inl 7, .inr (.long, 8), .inl 7, .inr (.long, 8), .inl 7, .inr (.long, 8), .inl 7, .inr (.long, 8), .inl 7, .inr (.long, 8), .inl 7, .inr (.long, 8), .inl 7, .inr (.long, 8), .inl 7, .inr (.long, 8), .inl 7, .inr (.long, 8), .inl 7, .inr (.long, 8), .inl 7, .inr (.long, 8), .inl 7, .inr (.long, 8), .inl 7, .inr (.long, 8), .inl 7, .inr (.long, 8), .inl 7, .inr (.long, 8), .inl 7, .inr (.long, 8), .inl 7, .inr (.long, 8), .inl 7, .inr (.long, 8), .inl 7, .inr (.long, 8), .inl 7, .inr (.long, 8), .inl 7, .inr (.long, 8), .inl 7, .inr (.long, 8), .inl 7, .inr (.long, 8), .inl 7, .inr (.long, 8), .inl 7, .inr (.long, 8), .inl 7, .inr (.long, 8), .inl 7, .inr (.long, 8), .inl 7, .inr (.long, 8), .inl 7, .inr (.long, 8), .inl 7, .inr (.long, 8), .inl 7, .inr (.long, 8), .inl 7, .inr (.long, 8), .inl 7, .inr (.long, 8), .inl 7, .inr (.long, 8), .inl 7, .inr (.long, 8), .inl 7, .inr (.long, 8), .inl 7, .inr (.long, 8), .inl 7, .inr (.long, 8), .inl 7, .inr (.long, 8), .inl 7, .inr (.long, 8), .inl 7, .inr (.long, 8), .inl 7, .inr (.long, 8), .inl 7, .inr (.long, 8), .inl 7, .inr (.long, 8), .inl 7, .inr (.long, 8), .inl 7, .inr (.long, 8), .inl 7, .inr (.long, 8)]
def TT2 : List Sh := [.inl 7, .inr (.long, 8), .inr (.object RX0, 250), .inl 0, .inl 0, .inl 0, .inl 0, .inl 0, .inl 0, .inl 0, .inl 0, .inl 0, .inl 0, .inl 0, .inl 0, .inl 0, .inl 0, .inl 0, .inl 0, .inl 0, .inl 0, .inl 0, .inl 0, .inl 0, .inl 0, .inl 0, .inl 0, .inl 0, .inl 0, .inl 0, .inl 0, .inl 0, .inl 0, .inl 0, .inl 0, .inl 0, .inl 0, .inl 0, .inl 0, .inl 0, .inl 0, .inl 0, .inl 0, .inl 0, .inl 0, .inl 0, .inl 0, .inl 0, .inl 0, .inl 0, .inl 0, .inl 0, .inl 0, .inl 0, .inl 0, .inl 0, .inl 0, .inl 0, .inl 0, .inl 0, .inl 0, .inl 0, .inl 0, .inl 0, .inl 0, .inl 0, .inl 0, .inl 0, .inl 0, .inl 0, .inl 0, .inl 0, .inl 0, .inl 0, .inl 0, .inl 0, .inl 0, .inl 0, .inl 0, .inl 0, .inl 0, .inl 0, .inl 0, .inl 0, .inl 0, .inl 0, .inl 0, .inl 0, .inl 0, .inl 0, .inl 0, .inl 0, .inl 0, .inl 0, .inl 0, .inl 0, .inl 0, .inl 0, .inl 0, .inl 0]
def TT3 : List Sh := [.inl 0, .inl 0, .inl 0, .inl 0, .inl 0, .inl 0, .inl 0, .inl 0, .inl 0, .inl 0, .inl 0, .inl 0, .inl 0, .inl 0, .inl 0, .inl 0, .inl 0, .inl 0, .inl 0, .inl 0, .inl 0, .inl 0, .inl 0, .inl 0, .inl 0, .inl 0, .inl 0, .inl 0, .inl 0, .inl 0, .inl 0, .inl 0, .inl 0, .inl 0, .inl 0, .inl 0, .inl 0, .inl 0, .inl 0, .inl 0, .inl 0, .inl 0, .inl 0, .inl 0, .inl 0, .inl 0, .inl 0, .inl 0, .inl 0, .inl 0, .inl 0, .inl 0, .inl 0, .inl 0, .inl 0, .inl 0, .inl 0, .inl 0, .inl 0, .inl 0, .inl 0, .inl 0, .inl 0, .inl 0, .inl 0, .inl 0, .inl 0, .inl 0, .inl 0, .inl 0, .inl 0, .inl 0, .inl 0, .inl 0, .inl 0, .inl 0, .inl 0, .inl 0, .inl 0, .inl 0, .inl 0, .inl 0, .inl 0, .inl 0, .inl 0, .inl 0, .inl 0, .inl 0, .inl 0, .inl 0, .inl 0, .inl 0, .inl 0, .inl 0, .inl 0, .inl 0, .inl 0, .inl 0, .inl 0, .inl 0]
def TT4 : List Sh := [.inl 0, .inl 0, .inl 0, .inl 0, .inl 0, .inl 0, .inl 0, .inl 0, .inl 0, .inl 0, .inl 0, .inl 0, .inl 0, .inl 0, .inl 0, .inl 0, .inl 0, .inl 0, .inl 0, .inl 0, .inl 0, .inl 0, .inl 0, .inl 0, .inl 0, .inl 0, .inl 0, .inl 0, .inl 0, .inl 0, .inl 0, .inl 0, .inl 0, .inl 0, .inl 0, .inl 0, .inl 0, .inl 0, .inl 0, .inl 0, .inl 0, .inl 0, .inl 0, .inl 0, .inl 0, .inl 0, .inl 0, .inl 0, .inl 0, .inl 0, .inl 0, .inl 0, .inl 0, .inl 10, .inr (.long, 8), .inl 6, .inr (.byte, 2000), .inr (.object RX2, 10), .inl 2, .inr (.int, 6), .inl 2, .inr (.int, 6), .inl 2, .inr (.int, 6), .inl 2, .inr (.int, 6), .inl 2, .inr (.int, 6), .inl 2, .inr (.int, 6), .inl 2, .inr (.int, 6), .inl 2, .inr (.int, 6), .inl 2, .inr (.int, 6), .inl 2, .inr (.int, 6), .inr (.object RX7, 60), .inl 7, .inr (.long, 8), .inl 7, .inr (.long, 8), .inl 7, .inr (.long, 8), .inl 7, .inr (.long, 8), .inl 7, .inr (.long, 8), .inl 7, .inr (.long, 8), .inl 7, .inr (.long, 8), .inl 7, .inr (.long, 8), .inl 7, .inr (.long, 8), .inl 7, .inr (.long, 8), .inl 7]
def TT5 : List Sh := [.inr (.long, 8), .inl 7, .inr (.long, 8), .inl 7, .inr (.long, 8), .inl 7, .inr (.long, 8), .inl 7, .inr (.long, 8), .inl 7, .inr (.long, 8), .inl 7, .inr (.long, 8), .inl 7, .inr (.long, 8), .inl 7, .inr (.long, 8), .inl 7, .inr (.long, 8), .inl 7, .inr (.long, 8), .inl 7, .inr (.long, 8), .inl 7, .inr (.long, 8), .inl 7, .inr (.long, 8), .inl 7, .inr (.long, 8), .inl 7, .inr (.long, 8), .inl 7, .inr (.long, 8), .inl 7, .inr (.long, 8), .inl 7, .inr (.long, 8), .inl 7, .inr (.long, 8), .inl 7, .inr (.long, 8), .inl 7, .inr (.long, 8), .inl 7, .inr (.long, 8), .inl 7, .inr (.long, 8), .inl 7, .inr (.long, 8), .inl 7, .inr (.long, 8), .inl 7, .inr (.long, 8), .inl 7, .inr (.long, 8), .inl 7, .inr (.long, 8), .inl 7, .inr (.long, 8), .inl 7, .inr (.long, 8), .inl 7, .inr (.long, 8), .inl 7, .inr (.long, 8), .inl 7, .inr (.long, 8), .inl 7, .inr (.long, 8), .inl 7, .inr (.long, 8), .inl 7, .inr (.long, 8), .inl 7, .inr (.long, 8), .inl 7, .inr (.long, 8), .inl 7, .inr (.long, 8), .inl 7, .inr (.long, 8), .inl 7, .inr (.long, 8), .inl 7, .inr (.long, 8), .inl 7, .inr (.long, 8), .inl 7, .inr (.long, 8), .inl 7, .inr (.long, 8), .inl 7, .inr (.long, 8), .inl 7, .inr (.long, 8), .inl 7, .inr (.long, 8), .inl 7, .inr (.long, 8), .inr (.object RX0, 250)]
def TT6 : List Sh := [.inl 0, .inl 0, .inl 0, .inl 0, .inl 0, .inl 0, .inl 0, .inl 0, .inl 0, .inl 0, .inl 0, .inl 0, .inl 0, .inl 0, .inl 0, .inl 0, .inl 0, .inl 0, .inl 0, .inl 0, .inl 0, .inl 0, .inl 0, .inl 0, .inl 0, .inl 0, .inl 0, .inl 0, .inl 0, .inl 0, .inl 0, .inl 0, .inl 0, .inl 0, .inl 0, .inl 0, .inl 0, .inl 0, .inl 0, .inl 0, .inl 0, .inl 0, .inl 0, .inl 0, .inl 0, .inl 0, .inl 0, .inl 0, .inl 0, .inl 0, .inl 0, .inl 0, .inl 0, .inl 0, .inl 0, .inl 0, .inl 0, .inl 0, .inl 0, .inl 0, .inl 0, .inl 0, .inl 0, .inl 0, .inl 0, .inl 0, .inl 0, .inl 0, .inl 0, .inl 0, .inl 0, .inl 0, .inl 0, .inl 0, .inl 0, .inl 0, .inl 0, .inl 0, .inl 0, .inl 0, .inl 0, .inl 0, .inl 0, .inl 0, .inl 0, .inl 0, .inl 0, .inl 0, .inl 0, .inl 0, .inl 0, .inl 0, .inl 0, .inl 0, .inl 0, .inl 0, .inl 0, .inl 0, .inl 0, .inl 0]
def TT7 : List Sh := [.inl 0, .inl 0, .inl 0, .inl 0, .inl 0, .inl 0, .inl 0, .inl 0, .inl 0, .inl 0, .inl 0, .inl 0, .inl 0, .inl 0, .inl 0, .inl 0, .inl 0, .inl 0, .inl 0, .inl 0, .inl 0, .inl 0, .inl 0, .inl 0, .inl 0, .inl 0, .inl 0, .inl 0, .inl 0, .inl 0, .inl 0, .inl 0, .inl 0, .inl 0, .inl 0, .inl 0, .inl 0, .inl 0, .inl 0, .inl 0, .inl 0, .inl 0, .inl 0, .inl 0, .inl 0, .inl 0, .inl 0, .inl 0, .inl 0, .inl 0, .inl 0, .inl 0, .inl 0, .inl 0, .inl 0, .inl 0, .inl 0, .inl 0, .inl 0, .inl 0, .inl 0, .inl 0, .inl 0, .inl 0, .inl 0, .inl 0, .inl 0, .inl 0, .inl 0, .inl 0, .inl 0, .inl 0, .inl 0, .inl 0, .inl 0, .inl 0, .inl 0, .inl 0, .inl 0, .inl 0, .inl 0, .inl 0, .inl 0, .inl 0, .inl 0, .inl 0, .inl 0, .inl 0, .inl 0, .inl 0, .inl 0, .inl 0, .inl 0, .inl 0, .inl 0, .inl 0, .inl 0, .inl 0, .inl 0, .inl 0]
def TT8 : List Sh := [.inl 0, .inl 0, .inl 0, .inl 0, .inl 0, .inl 0, .inl 0, .inl 0, .inl 0, .inl 0, .inl 0, .inl 0, .inl 0, .inl 0, .inl 0, .inl 0, .inl 0, .inl 0, .inl 0, .inl 0, .inl 0, .inl 0, .inl 0, .inl 0, .inl 0, .inl 0, .inl 0, .inl 0, .inl 0, .inl 0, .inl 0, .inl 0, .inl 0, .inl 0, .inl 0, .inl 0, .inl 0, .inl 0, .inl 0, .inl 0, .inl 0, .inl 0, .inl 0, .inl 0, .inl 0, .inl 0, .inl 0, .inl 0, .inl 0, .inl 0, .inl 10, .inr (.long, 8), .inl 8, .inr (.int, 700), .inr (.int, 700), .inr (.int, 110), .inr (.int, 110), .inr (.boolean, 250), .inr (.int, 10), .inl 1, .inr (.int, 10), .inr (.int, 250), .inr (.int, 10), .inl 3, .inr (.byte, 2500), .inr (.byte, 10), .inr (.long, 8), .inr (.long, 8), .inr (.long, 8), .inl 12, .inr (.byte, 2000), .inr (.byte, 2001), .inr (.long, 9), .inr (.int, 272), .inr (.long, 78336), .inr (.long, 6300), .inr (.long, 9), .inr (.long, 9), .inr (.long, 9), .inr (.byte, 4000), .inr (.int, 2), .inr (.int, 2), .inr (.int, 2), .inr (.int, 2), .inr (.int, 20), .inr (.int, 20), .inr (.int, 22), .inr (.int, 120), .inr (.int, 120), .inr (.int, 120), .inr (.long, 1080), .inr (.int, 500), .inr (.int, 500), .inr (.int, 500), .inr (.int, 500), .inr (.int, 500), .inr (.int, 250), .inr (.long, 72000), .inr (.int, 250), .inr (.boolean, 250)]
def TT9 : List Sh := [.inr (.int, 700), .inr (.int, 700), .inr (.int, 110), .inr (.int, 10), .inr (.int, 11), .inr (.int, 11), .inr (.int, 10), .inr (.int, 10), .inr (.int, 250), .inr (.int, 9), .inr (.int, 10), .inr (.byte, 4000)]
def TT : List Sh := TT0 ++ (TT1 ++ (TT2 ++ (TT3 ++ (TT4 ++ (TT5 ++ (TT6 ++ (TT7 ++ (TT8 ++ (TT9)))))))))
theorem TT_len : TT.length = 912 := by decide +kernel
theorem s_1 : sh TT 1 = some (.inl 11) := by decide +kernel
theorem s_2 : sh TT 2 = some (.inr (.byte, 2000)) := by decide +kernel
theorem s_3 : sh TT 3 = some (.inr (.object RX4, 16)) := by decide +kernel
theorem s_36 : sh TT 36 = some (.inl 4) := by decide +kernel
theorem s_37 : sh TT 37 = some (.inr (.long, 512)) := by decide +kernel
theorem s_38 : sh TT 38 = some (.inl 10) := by decide +kernel
theorem s_39 : sh TT 39 = some (.inr (.long, 8)) := by decide +kernel
theorem s_40 : sh TT 40 = some (.inl 10) := by decide +kernel
theorem s_41 : sh TT 41 = some (.inr (.long, 8)) := by decide +kernel
theorem s_42 : sh TT 42 = some (.inl 9) := by decide +kernel
theorem s_43 : sh TT 43 = some (.inr (.byte, 2000)) := by decide +kernel
theorem s_44 : sh TT 44 = some (.inr (.int, 2000)) := by decide +kernel
theorem s_45 : sh TT 45 = some (.inr (.int, 2000)) := by decide +kernel
theorem s_46 : sh TT 46 = some (.inl 10) := by decide +kernel
theorem s_47 : sh TT 47 = some (.inr (.long, 8)) := by decide +kernel
theorem s_48 : sh TT 48 = some (.inl 5) := by decide +kernel
theorem s_49 : sh TT 49 = some (.inl 10) := by decide +kernel
theorem s_50 : sh TT 50 = some (.inr (.long, 8)) := by decide +kernel
theorem s_51 : sh TT 51 = some (.inr (.long, 8)) := by decide +kernel
theorem s_52 : sh TT 52 = some (.inr (.long, 8)) := by decide +kernel
theorem s_53 : sh TT 53 = some (.inr (.long, 8)) := by decide +kernel
theorem s_54 : sh TT 54 = some (.inr (.long, 8)) := by decide +kernel
theorem s_55 : sh TT 55 = some (.inl 4) := by decide +kernel
theorem s_56 : sh TT 56 = some (.inr (.long, 16)) := by decide +kernel
theorem s_57 : sh TT 57 = some (.inl 4) := by decide +kernel
theorem s_58 : sh TT 58 = some (.inr (.long, 512)) := by decide +kernel
theorem s_853 : sh TT 853 = some (.inl 8) := by decide +kernel
theorem s_854 : sh TT 854 = some (.inr (.int, 700)) := by decide +kernel
theorem s_855 : sh TT 855 = some (.inr (.int, 700)) := by decide +kernel
theorem s_856 : sh TT 856 = some (.inr (.int, 110)) := by decide +kernel
theorem s_857 : sh TT 857 = some (.inr (.int, 110)) := by decide +kernel
theorem s_858 : sh TT 858 = some (.inr (.boolean, 250)) := by decide +kernel
theorem s_859 : sh TT 859 = some (.inr (.int, 10)) := by decide +kernel
theorem s_860 : sh TT 860 = some (.inl 1) := by decide +kernel
theorem s_861 : sh TT 861 = some (.inr (.int, 10)) := by decide +kernel
theorem s_862 : sh TT 862 = some (.inr (.int, 250)) := by decide +kernel
theorem s_863 : sh TT 863 = some (.inr (.int, 10)) := by decide +kernel
theorem s_864 : sh TT 864 = some (.inl 3) := by decide +kernel
theorem s_865 : sh TT 865 = some (.inr (.byte, 2500)) := by decide +kernel
theorem s_866 : sh TT 866 = some (.inr (.byte, 10)) := by decide +kernel
theorem s_867 : sh TT 867 = some (.inr (.long, 8)) := by decide +kernel
theorem s_868 : sh TT 868 = some (.inr (.long, 8)) := by decide +kernel
theorem s_869 : sh TT 869 = some (.inr (.long, 8)) := by decide +kernel
theorem s_870 : sh TT 870 = some (.inl 12) := by decide +kernel
theorem s_871 : sh TT 871 = some (.inr (.byte, 2000)) := by decide +kernel
theorem s_872 : sh TT 872 = some (.inr (.byte, 2001)) := by decide +kernel
theorem s_873 : sh TT 873 = some (.inr (.long, 9)) := by decide +kernel
theorem s_874 : sh TT 874 = some (.inr (.int, 272)) := by decide +kernel
theorem s_875 : sh TT 875 = some (.inr (.long, 78336)) := by decide +kernel
theorem s_876 : sh TT 876 = some (.inr (.long, 6300)) := by decide +kernel
theorem s_877 : sh TT 877 = some (.inr (.long, 9)) := by decide +kernel
theorem s_878 : sh TT 878 = some (.inr (.long, 9)) := by decide +kernel
theorem s_879 : sh TT 879 = some (.inr (.long, 9)) := by decide +kernel
theorem s_880 : sh TT 880 = some (.inr (.byte, 4000)) := by decide +kernel
theorem s_881 : sh TT 881 = some (.inr (.int, 2)) := by decide +kernel
theorem s_882 : sh TT 882 = some (.inr (.int, 2)) := by decide +kernel
theorem s_883 : sh TT 883 = some (.inr (.int, 2)) := by decide +kernel
theorem s_884 : sh TT 884 = some (.inr (.int, 2)) := by decide +kernel
theorem s_885 : sh TT 885 = some (.inr (.int, 20)) := by decide +kernel
theorem s_886 : sh TT 886 = some (.inr (.int, 20)) := by decide +kernel
theorem s_887 : sh TT 887 = some (.inr (.int, 22)) := by decide +kernel
theorem s_888 : sh TT 888 = some (.inr (.int, 120)) := by decide +kernel
theorem s_889 : sh TT 889 = some (.inr (.int, 120)) := by decide +kernel
theorem s_890 : sh TT 890 = some (.inr (.int, 120)) := by decide +kernel
theorem s_891 : sh TT 891 = some (.inr (.long, 1080)) := by decide +kernel
theorem s_892 : sh TT 892 = some (.inr (.int, 500)) := by decide +kernel
theorem s_893 : sh TT 893 = some (.inr (.int, 500)) := by decide +kernel
theorem s_894 : sh TT 894 = some (.inr (.int, 500)) := by decide +kernel
theorem s_895 : sh TT 895 = some (.inr (.int, 500)) := by decide +kernel
theorem s_896 : sh TT 896 = some (.inr (.int, 500)) := by decide +kernel
theorem s_897 : sh TT 897 = some (.inr (.int, 250)) := by decide +kernel
theorem s_898 : sh TT 898 = some (.inr (.long, 72000)) := by decide +kernel
theorem s_899 : sh TT 899 = some (.inr (.int, 250)) := by decide +kernel
theorem s_900 : sh TT 900 = some (.inr (.boolean, 250)) := by decide +kernel
theorem s_901 : sh TT 901 = some (.inr (.int, 700)) := by decide +kernel
theorem s_902 : sh TT 902 = some (.inr (.int, 700)) := by decide +kernel
theorem s_903 : sh TT 903 = some (.inr (.int, 110)) := by decide +kernel
theorem s_904 : sh TT 904 = some (.inr (.int, 10)) := by decide +kernel
theorem s_905 : sh TT 905 = some (.inr (.int, 11)) := by decide +kernel
theorem s_906 : sh TT 906 = some (.inr (.int, 11)) := by decide +kernel
theorem s_907 : sh TT 907 = some (.inr (.int, 10)) := by decide +kernel
theorem s_908 : sh TT 908 = some (.inr (.int, 10)) := by decide +kernel
theorem s_909 : sh TT 909 = some (.inr (.int, 250)) := by decide +kernel
theorem s_910 : sh TT 910 = some (.inr (.int, 9)) := by decide +kernel
theorem s_911 : sh TT 911 = some (.inr (.int, 10)) := by decide +kernel
theorem s_912 : sh TT 912 = some (.inr (.byte, 4000)) := by decide +kernel
theorem sT : sh TT 1 = some (.inl 11) ∧ sh TT 2 = some (.inr (.byte, 2000)) ∧ sh TT 3 = some (.inr (.object RX4, 16)) ∧ sh TT 36 = some (.inl 4) ∧ sh TT 37 = some (.inr (.long, 512)) ∧ sh TT 38 = some (.inl 10) ∧ sh TT 39 = some (.inr (.long, 8)) ∧ sh TT 40 = some (.inl 10) ∧ sh TT 41 = some (.inr (.long, 8)) ∧ sh TT 42 = some (.inl 9) ∧ sh TT 43 = some (.inr (.byte, 2000)) ∧ sh TT 44 = some (.inr (.int, 2000)) ∧ sh TT 45 = some (.inr (.int, 2000)) ∧ sh TT 46 = some (.inl 10) ∧ sh TT 47 = some (.inr (.long, 8)) ∧ sh TT 48 = some (.inl 5) ∧ sh TT 49 = some (.inl 10) ∧ sh TT 50 = some (.inr (.long, 8)) ∧ sh TT 51 = some (.inr (.long, 8)) ∧ sh TT 52 = some (.inr (.long, 8)) ∧ sh TT 53 = some (.inr (.long, 8)) ∧ sh TT 54 = some (.inr (.long, 8)) ∧ sh TT 55 = some (.inl 4) ∧ sh TT 56 = some (.inr (.long, 16)) ∧ sh TT 57 = some (.inl 4) ∧ sh TT 58 = some (.inr (.long, 512)) ∧ sh TT 853 = some (.inl 8) ∧ sh TT 854 = some (.inr (.int, 700)) ∧ sh TT 855 = some (.inr (.int, 700)) ∧ sh TT 856 = some (.inr (.int, 110)) ∧ sh TT 857 = some (.inr (.int, 110)) ∧ sh TT 858 = some (.inr (.boolean, 250)) ∧ sh TT 859 = some (.inr (.int, 10)) ∧ sh TT 860 = some (.inl 1) ∧ sh TT 861 = some (.inr (.int, 10)) ∧ sh TT 862 = some (.inr (.int, 250)) ∧ sh TT 863 = some (.inr (.int, 10)) ∧ sh TT 864 = some (.inl 3) ∧ sh TT 865 = some (.inr (.byte, 2500)) ∧ sh TT 866 = some (.inr (.byte, 10)) ∧ sh TT 867 = some (.inr (.long, 8)) ∧ sh TT 868 = some (.inr (.long, 8)) ∧ sh TT 869 = some (.inr (.long, 8)) ∧ sh TT 870 = some (.inl 12) ∧ sh TT 871 = some (.inr (.byte, 2000)) ∧ sh TT 872 = some (.inr (.byte, 2001)) ∧ sh TT 873 = some (.inr (.long, 9)) ∧ sh TT 874 = some (.inr (.int, 272)) ∧ sh TT 875 = some (.inr (.long, 78336)) ∧ sh TT 876 = some (.inr (.long, 6300)) ∧ sh TT 877 = some (.inr (.long, 9)) ∧ sh TT 878 = some (.inr (.long, 9)) ∧ sh TT 879 = some (.inr (.long, 9)) ∧ sh TT 880 = some (.inr (.byte, 4000)) ∧ sh TT 881 = some (.inr (.int, 2)) ∧ sh TT 882 = some (.inr (.int, 2)) ∧ sh TT 883 = some (.inr (.int, 2)) ∧ sh TT 884 = some (.inr (.int, 2)) ∧ sh TT 885 = some (.inr (.int, 20)) ∧ sh TT 886 = some (.inr (.int, 20)) ∧ sh TT 887 = some (.inr (.int, 22)) ∧ sh TT 888 = some (.inr (.int, 120)) ∧ sh TT 889 = some (.inr (.int, 120)) ∧ sh TT 890 = some (.inr (.int, 120)) ∧ sh TT 891 = some (.inr (.long, 1080)) ∧ sh TT 892 = some (.inr (.int, 500)) ∧ sh TT 893 = some (.inr (.int, 500)) ∧ sh TT 894 = some (.inr (.int, 500)) ∧ sh TT 895 = some (.inr (.int, 500)) ∧ sh TT 896 = some (.inr (.int, 500)) ∧ sh TT 897 = some (.inr (.int, 250)) ∧ sh TT 898 = some (.inr (.long, 72000)) ∧ sh TT 899 = some (.inr (.int, 250)) ∧ sh TT 900 = some (.inr (.boolean, 250)) ∧ sh TT 901 = some (.inr (.int, 700)) ∧ sh TT 902 = some (.inr (.int, 700)) ∧ sh TT 903 = some (.inr (.int, 110)) ∧ sh TT 904 = some (.inr (.int, 10)) ∧ sh TT 905 = some (.inr (.int, 11)) ∧ sh TT 906 = some (.inr (.int, 11)) ∧ sh TT 907 = some (.inr (.int, 10)) ∧ sh TT 908 = some (.inr (.int, 10)) ∧ sh TT 909 = some (.inr (.int, 250)) ∧ sh TT 910 = some (.inr (.int, 9)) ∧ sh TT 911 = some (.inr (.int, 10)) ∧ sh TT 912 = some (.inr (.byte, 4000)) := ⟨s_1, s_2, s_3, s_36, s_37, s_38, s_39, s_40, s_41, s_42, s_43, s_44, s_45, s_46, s_47, s_48, s_49, s_50, s_51, s_52, s_53, s_54, s_55, s_56, s_57, s_58, s_853, s_854, s_855, s_856, s_857, s_858, s_859, s_860, s_861, s_862, s_863, s_864, s_865, s_866, s_867, s_868, s_869, s_870, s_871, s_872, s_873, s_874, s_875, s_876, s_877, s_878, s_879, s_880, s_881, s_882, s_883, s_884, s_885, s_886, s_887, s_888, s_889, s_890, s_891, s_892, s_893, s_894, s_895, s_896, s_897, s_898, s_899, s_900, s_901, s_902, s_903, s_904, s_905, s_906, s_907, s_908, s_909, s_910, s_911, s_912⟩
theorem sT_slot : ∀ k, k < 16 → sh TT (4 + 2 * k) = some (.inl 4) ∧ sh TT (5 + 2 * k) = some (.inr (.long, 256)) := by decide +kernel
theorem sT_regA : sh TT 59 = some (.inl 6) ∧ sh TT 60 = some (.inr (.byte, 2000)) ∧ sh TT 61 = some (.inr (.object RX2, 10)) ∧ sh TT 82 = some (.inr (.object RX7, 60)) ∧ sh TT 203 = some (.inr (.object RX0, 250)) ∧ sh TT 454 = some (.inl 10) ∧ sh TT 455 = some (.inr (.long, 8)) := by decide +kernel
theorem sT_packA : ∀ k, k < 10 → sh TT (62 + 2 * k) = some (.inl 2) ∧ sh TT (63 + 2 * k) = some (.inr (.int, 6)) := by decide +kernel
theorem sT_relA : ∀ k, k < 60 → sh TT (83 + 2 * k) = some (.inl 7) ∧ sh TT (84 + 2 * k) = some (.inr (.long, 8)) := by decide +kernel
theorem sT_conA : ∀ k, k < 250 → sh TT (204 + k) = some (.inl 0) := by decide +kernel
theorem sT_regB : sh TT 456 = some (.inl 6) ∧ sh TT 457 = some (.inr (.byte, 2000)) ∧ sh TT 458 = some (.inr (.object RX2, 10)) ∧ sh TT 479 = some (.inr (.object RX7, 60)) ∧ sh TT 600 = some (.inr (.object RX0, 250)) ∧ sh TT 851 = some (.inl 10) ∧ sh TT 852 = some (.inr (.long, 8)) := by decide +kernel
theorem sT_packB : ∀ k, k < 10 → sh TT (459 + 2 * k) = some (.inl 2) ∧ sh TT (460 + 2 * k) = some (.inr (.int, 6)) := by decide +kernel
theorem sT_relB : ∀ k, k < 60 → sh TT (480 + 2 * k) = some (.inl 7) ∧ sh TT (481 + 2 * k) = some (.inr (.long, 8)) := by decide +kernel
theorem sT_conB : ∀ k, k < 250 → sh TT (601 + k) = some (.inl 0) := by decide +kernel
