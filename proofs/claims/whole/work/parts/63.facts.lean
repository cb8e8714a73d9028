/-! the shape, fact by fact -/
theorem sh_640 {h : PH} (a : SH h) : hR h 640 0 0 = 1 := (a.1 (640, 0, 0, 1) (by decide +kernel)).1
theorem sh_641 {h : PH} (a : SH h) : hR h 641 0 0 = 2 := (a.1 (641, 0, 0, 2) (by decide +kernel)).1
theorem sh_643 {h : PH} (a : SH h) : hR h 643 0 0 = 1 := (a.1 (643, 0, 0, 1) (by decide +kernel)).1
theorem sh_644 {h : PH} (a : SH h) : hR h 644 0 0 = 1 := (a.1 (644, 0, 0, 1) (by decide +kernel)).1
theorem sh_645 {h : PH} (a : SH h) : hR h 645 0 0 = 1 := (a.1 (645, 0, 0, 1) (by decide +kernel)).1
theorem sh_646 {h : PH} (a : SH h) : hR h 646 0 0 = 1 := (a.1 (646, 0, 0, 1) (by decide +kernel)).1
theorem sh_647 {h : PH} (a : SH h) : hR h 647 0 0 = 1 := (a.1 (647, 0, 0, 1) (by decide +kernel)).1
theorem sh_648 {h : PH} (a : SH h) : hR h 648 0 0 = 1 := (a.1 (648, 0, 0, 1) (by decide +kernel)).1
theorem sh_128 {h : PH} (a : SH h) : hR h 128 0 0 = 1 := (a.1 (128, 0, 0, 1) (by decide +kernel)).1
theorem sh_135 {h : PH} (a : SH h) : hR h 135 0 0 = 1 := (a.1 (135, 0, 0, 1) (by decide +kernel)).1
theorem sh_0 {h : PH} (a : SH h) : hR h 0 0 0 = 1 := (a.1 (0, 0, 0, 1) (by decide +kernel)).1
theorem sh_704 {h : PH} (a : SH h) : hR h 704 0 0 = 1 := (a.1 (704, 0, 0, 1) (by decide +kernel)).1
theorem sh_705 {h : PH} (a : SH h) : hR h 705 0 0 = 1 := (a.1 (705, 0, 0, 1) (by decide +kernel)).1
theorem sh_706 {h : PH} (a : SH h) : hR h 706 0 0 = 1 := (a.1 (706, 0, 0, 1) (by decide +kernel)).1
theorem sh_708 {h : PH} (a : SH h) : hR h 708 0 0 = 1 := (a.1 (708, 0, 0, 1) (by decide +kernel)).1
theorem sh_710 {h : PH} (a : SH h) : hR h 710 0 0 = 1 := (a.1 (710, 0, 0, 1) (by decide +kernel)).1
theorem sh_718 {h : PH} (a : SH h) : hR h 718 0 0 = 1 := (a.1 (718, 0, 0, 1) (by decide +kernel)).1
theorem sh_719 {h : PH} (a : SH h) : hR h 719 0 0 = 1 := (a.1 (719, 0, 0, 1) (by decide +kernel)).1
theorem sh_720 {h : PH} (a : SH h) : hR h 720 0 0 = 1 := (a.1 (720, 0, 0, 1) (by decide +kernel)).1
theorem sh_723 {h : PH} (a : SH h) : hR h 723 0 0 = 1 := (a.1 (723, 0, 0, 1) (by decide +kernel)).1
theorem sh_725 {h : PH} (a : SH h) : hR h 725 0 0 = 1 := (a.1 (725, 0, 0, 1) (by decide +kernel)).1
theorem sh_726 {h : PH} (a : SH h) : hR h 726 0 0 = 1 := (a.1 (726, 0, 0, 1) (by decide +kernel)).1
theorem sh_727 {h : PH} (a : SH h) : hR h 727 0 0 = 1 := (a.1 (727, 0, 0, 1) (by decide +kernel)).1
theorem sh_728 {h : PH} (a : SH h) : hR h 728 0 0 = 1 := (a.1 (728, 0, 0, 1) (by decide +kernel)).1
theorem sh_729 {h : PH} (a : SH h) : hR h 729 0 0 = 1 := (a.1 (729, 0, 0, 1) (by decide +kernel)).1
theorem sh_730 {h : PH} (a : SH h) : hR h 730 0 0 = 1 := (a.1 (730, 0, 0, 1) (by decide +kernel)).1
theorem sh_735 {h : PH} (a : SH h) : hR h 735 0 0 = 1 := (a.1 (735, 0, 0, 1) (by decide +kernel)).1
theorem sh_736 {h : PH} (a : SH h) : hR h 736 0 0 = 1 := (a.1 (736, 0, 0, 1) (by decide +kernel)).1
theorem sh_738 {h : PH} (a : SH h) : hR h 738 0 0 = 1 := (a.1 (738, 0, 0, 1) (by decide +kernel)).1
theorem sh_742 {h : PH} (a : SH h) : hR h 742 0 0 = 1 := (a.1 (742, 0, 0, 1) (by decide +kernel)).1
theorem sh_743 {h : PH} (a : SH h) : hR h 743 0 0 = 1 := (a.1 (743, 0, 0, 1) (by decide +kernel)).1
theorem sh_744 {h : PH} (a : SH h) : hR h 744 0 0 = 1 := (a.1 (744, 0, 0, 1) (by decide +kernel)).1
theorem sh_745 {h : PH} (a : SH h) : hR h 745 0 0 = 1 := (a.1 (745, 0, 0, 1) (by decide +kernel)).1
theorem sh_746 {h : PH} (a : SH h) : hR h 746 0 0 = 1 := (a.1 (746, 0, 0, 1) (by decide +kernel)).1
theorem sh_747 {h : PH} (a : SH h) : hR h 747 0 0 = 1 := (a.1 (747, 0, 0, 1) (by decide +kernel)).1
theorem sh_748 {h : PH} (a : SH h) : hR h 748 0 0 = 1 := (a.1 (748, 0, 0, 1) (by decide +kernel)).1
theorem sh_749 {h : PH} (a : SH h) : hR h 749 0 0 = 1 := (a.1 (749, 0, 0, 1) (by decide +kernel)).1
theorem sh_750 {h : PH} (a : SH h) : hR h 750 0 0 = 1 := (a.1 (750, 0, 0, 1) (by decide +kernel)).1
theorem sh_751 {h : PH} (a : SH h) : hR h 751 0 0 = 1 := (a.1 (751, 0, 0, 1) (by decide +kernel)).1
theorem sh_752 {h : PH} (a : SH h) : hR h 752 0 0 = 1 := (a.1 (752, 0, 0, 1) (by decide +kernel)).1
theorem sh_753 {h : PH} (a : SH h) : hR h 753 0 0 = 1 := (a.1 (753, 0, 0, 1) (by decide +kernel)).1
theorem sh_64 {h : PH} (a : SH h) : ∀ i, i < 2 → hR h 64 i 0 = i + 1 := by
  have e : ∀ i, i < 2 → (64, i, 0, i + 1) ∈ shList := by decide +kernel
  exact fun i hi => (a.1 _ (e i hi)).1
theorem sh_65 {h : PH} (a : SH h) : ∀ i, i < 2 → hR h 65 i 0 = i + 1 := by
  have e : ∀ i, i < 2 → (65, i, 0, i + 1) ∈ shList := by decide +kernel
  exact fun i hi => (a.1 _ (e i hi)).1
theorem sh_66 {h : PH} (a : SH h) : ∀ i, i < 2 → hR h 66 i 0 = i + 1 := by
  have e : ∀ i, i < 2 → (66, i, 0, i + 1) ∈ shList := by decide +kernel
  exact fun i hi => (a.1 _ (e i hi)).1
theorem sh_67 {h : PH} (a : SH h) : ∀ i, i < 2 → hR h 67 i 0 = i + 1 := by
  have e : ∀ i, i < 2 → (67, i, 0, i + 1) ∈ shList := by decide +kernel
  exact fun i hi => (a.1 _ (e i hi)).1
theorem sh_68 {h : PH} (a : SH h) : ∀ i, i < 2 → hR h 68 i 0 = i + 1 := by
  have e : ∀ i, i < 2 → (68, i, 0, i + 1) ∈ shList := by decide +kernel
  exact fun i hi => (a.1 _ (e i hi)).1
theorem sh_69 {h : PH} (a : SH h) : ∀ i, i < 2 → hR h 69 i 0 = i + 1 := by
  have e : ∀ i, i < 2 → (69, i, 0, i + 1) ∈ shList := by decide +kernel
  exact fun i hi => (a.1 _ (e i hi)).1
theorem sh_70 {h : PH} (a : SH h) : ∀ i, i < 2 → hR h 70 i 0 = i + 1 := by
  have e : ∀ i, i < 2 → (70, i, 0, i + 1) ∈ shList := by decide +kernel
  exact fun i hi => (a.1 _ (e i hi)).1
theorem sh_71 {h : PH} (a : SH h) : ∀ i, i < 2 → hR h 71 i 0 = i + 1 := by
  have e : ∀ i, i < 2 → (71, i, 0, i + 1) ∈ shList := by decide +kernel
  exact fun i hi => (a.1 _ (e i hi)).1
theorem sh_325 {h : PH} (a : SH h) : ∀ i, i < 28 → hR h 325 i 0 = i + 1 := by
  have e : ∀ i, i < 28 → (325, i, 0, i + 1) ∈ shList := by decide +kernel
  exact fun i hi => (a.1 _ (e i hi)).1
theorem sh_326 {h : PH} (a : SH h) : ∀ i, i < 28 → hR h 326 i 0 = i + 1 := by
  have e : ∀ i, i < 28 → (326, i, 0, i + 1) ∈ shList := by decide +kernel
  exact fun i hi => (a.1 _ (e i hi)).1
theorem sh_194 {h : PH} (a : SH h) : ∀ i, i < 2 → hR h 194 i 0 = i + 1 := by
  have e : ∀ i, i < 2 → (194, i, 0, i + 1) ∈ shList := by decide +kernel
  exact fun i hi => (a.1 _ (e i hi)).1
theorem sh_195 {h : PH} (a : SH h) : ∀ i, i < 2 → hR h 195 i 0 = i + 1 := by
  have e : ∀ i, i < 2 → (195, i, 0, i + 1) ∈ shList := by decide +kernel
  exact fun i hi => (a.1 _ (e i hi)).1
theorem sh_258 {h : PH} (a : SH h) : ∀ i, i < 9 → hR h 258 i 0 = i + 1 := by
  have e : ∀ i, i < 9 → (258, i, 0, i + 1) ∈ shList := by decide +kernel
  exact fun i hi => (a.1 _ (e i hi)).1
theorem sh_388 {h : PH} (a : SH h) : ∀ i, i < 5 → hR h 388 i 0 = i + 5 := by
  have e : ∀ i, i < 5 → (388, i, 0, i + 5) ∈ shList := by decide +kernel
  exact fun i hi => (a.1 _ (e i hi)).1
theorem sh_512 {h : PH} (a : SH h) : ∀ i, i < 2 → hR h 512 i 0 = i + 1 := by
  have e : ∀ i, i < 2 → (512, i, 0, i + 1) ∈ shList := by decide +kernel
  exact fun i hi => (a.1 _ (e i hi)).1
theorem sh_514 {h : PH} (a : SH h) : ∀ i, i < 2 → hR h 514 i 0 = i + 1 := by
  have e : ∀ i, i < 2 → (514, i, 0, i + 1) ∈ shList := by decide +kernel
  exact fun i hi => (a.1 _ (e i hi)).1
theorem sh_517 {h : PH} (a : SH h) : ∀ i, i < 2 → hR h 517 i 0 = i + 1 := by
  have e : ∀ i, i < 2 → (517, i, 0, i + 1) ∈ shList := by decide +kernel
  exact fun i hi => (a.1 _ (e i hi)).1
theorem sh_518 {h : PH} (a : SH h) : ∀ i, i < 2 → hR h 518 i 0 = i + 1 := by
  have e : ∀ i, i < 2 → (518, i, 0, i + 1) ∈ shList := by decide +kernel
  exact fun i hi => (a.1 _ (e i hi)).1
theorem sh_519 {h : PH} (a : SH h) : ∀ i, i < 2 → hR h 519 i 0 = i + 1 := by
  have e : ∀ i, i < 2 → (519, i, 0, i + 1) ∈ shList := by decide +kernel
  exact fun i hi => (a.1 _ (e i hi)).1
theorem sh_520 {h : PH} (a : SH h) : ∀ i, i < 2 → hR h 520 i 0 = i + 1 := by
  have e : ∀ i, i < 2 → (520, i, 0, i + 1) ∈ shList := by decide +kernel
  exact fun i hi => (a.1 _ (e i hi)).1
theorem sh_522 {h : PH} (a : SH h) : ∀ i, i < 2 → hR h 522 i 0 = i + 1 := by
  have e : ∀ i, i < 2 → (522, i, 0, i + 1) ∈ shList := by decide +kernel
  exact fun i hi => (a.1 _ (e i hi)).1
theorem sh_2368 {h : PH} (a : SH h) : ∀ j, j < 2 → hR h 2368 0 j = j + 1 := by
  have e : ∀ j, j < 2 → (2368, 0, j, j + 1) ∈ shList := by decide +kernel
  exact fun j hj => (a.1 _ (e j hj)).1
theorem sh_2432 {h : PH} (a : SH h) : ∀ j, j < 4 → hR h 2432 0 j = j + 1 := by
  have e : ∀ j, j < 4 → (2432, 0, j, j + 1) ∈ shList := by decide +kernel
  exact fun j hj => (a.1 _ (e j hj)).1
theorem sh_2496 {h : PH} (a : SH h) : ∀ j, j < 5 → hR h 2496 0 j = j + 1 := by
  have e : ∀ j, j < 5 → (2496, 0, j, j + 1) ∈ shList := by decide +kernel
  exact fun j hj => (a.1 _ (e j hj)).1
theorem sh_768 {h : PH} (a : SH h) : ∀ j, j < 16 → hR h 768 0 j = j + 1 := by
  have e : ∀ j, j < 16 → (768, 0, j, j + 1) ∈ shList := by decide +kernel
  exact fun j hj => (a.1 _ (e j hj)).1
theorem sh_896_0 {h : PH} (a : SH h) : ∀ j, j < 20 → hR h 896 0 j = j + 1 := by
  have e : ∀ j, j < 20 → (896, 0, j, j + 1) ∈ shList := by decide +kernel
  exact fun j hj => (a.1 _ (e j hj)).1
theorem sh_896_1 {h : PH} (a : SH h) : ∀ j, j < 20 → hR h 896 1 j = 21 + j := by
  have e : ∀ j, j < 20 → (896, 1, j, 21 + j) ∈ shList := by decide +kernel
  exact fun j hj => (a.1 _ (e j hj)).1
theorem sh_1152_0 {h : PH} (a : SH h) : ∀ j, j < 14 → hR h 1152 0 j = j + 1 := by
  have e : ∀ j, j < 14 → (1152, 0, j, j + 1) ∈ shList := by decide +kernel
  exact fun j hj => (a.1 _ (e j hj)).1
theorem sh_1152_1 {h : PH} (a : SH h) : ∀ j, j < 14 → hR h 1152 1 j = 15 + j := by
  have e : ∀ j, j < 14 → (1152, 1, j, 15 + j) ∈ shList := by decide +kernel
  exact fun j hj => (a.1 _ (e j hj)).1
theorem ln_22 {h : PH} (a : SH h) : hL h 22 0 = 96 := (a.2.1 (22, 0, 96) (by decide +kernel)).1
theorem ln_23 {h : PH} (a : SH h) : hL h 23 0 = 96 := (a.2.1 (23, 0, 96) (by decide +kernel)).1
theorem ln_12 {h : PH} (a : SH h) : hL h 12 0 = 16 := (a.2.1 (12, 0, 16) (by decide +kernel)).1
theorem ln_37 {h : PH} (a : SH h) : hL h 37 0 = 2 := (a.2.1 (37, 0, 2) (by decide +kernel)).1
theorem ln_38 {h : PH} (a : SH h) : hL h 38 0 = 4 := (a.2.1 (38, 0, 4) (by decide +kernel)).1
theorem ln_39 {h : PH} (a : SH h) : hL h 39 0 = 5 := (a.2.1 (39, 0, 5) (by decide +kernel)).1
theorem ln_40 {h : PH} (a : SH h) : hL h 40 0 = 60 := (a.2.1 (40, 0, 60) (by decide +kernel)).1
theorem ln_41 {h : PH} (a : SH h) : hL h 41 0 = 1765 := (a.2.1 (41, 0, 1765) (by decide +kernel)).1
theorem ln_42 {h : PH} (a : SH h) : hL h 42 0 = 1765 := (a.2.1 (42, 0, 1765) (by decide +kernel)).1
theorem ln_43 {h : PH} (a : SH h) : hL h 43 0 = 1765 := (a.2.1 (43, 0, 1765) (by decide +kernel)).1
theorem ln_44 {h : PH} (a : SH h) : hL h 44 0 = 2912 := (a.2.1 (44, 0, 2912) (by decide +kernel)).1
theorem ln_45 {h : PH} (a : SH h) : hL h 45 0 = 96 := (a.2.1 (45, 0, 96) (by decide +kernel)).1
theorem ln_46 {h : PH} (a : SH h) : hL h 46 0 = 13 := (a.2.1 (46, 0, 13) (by decide +kernel)).1
theorem ln_47 {h : PH} (a : SH h) : hL h 47 0 = 4 := (a.2.1 (47, 0, 4) (by decide +kernel)).1
theorem ln_48 {h : PH} (a : SH h) : hL h 48 0 = 96 := (a.2.1 (48, 0, 96) (by decide +kernel)).1
theorem ln_49 {h : PH} (a : SH h) : hL h 49 0 = 96 := (a.2.1 (49, 0, 96) (by decide +kernel)).1
theorem ln_50 {h : PH} (a : SH h) : hL h 50 0 = 10 := (a.2.1 (50, 0, 10) (by decide +kernel)).1
theorem ln_51 {h : PH} (a : SH h) : hL h 51 0 = 96 := (a.2.1 (51, 0, 96) (by decide +kernel)).1
theorem ln_52 {h : PH} (a : SH h) : hL h 52 0 = 4 := (a.2.1 (52, 0, 4) (by decide +kernel)).1
theorem ln_53 {h : PH} (a : SH h) : hL h 53 0 = 20 := (a.2.1 (53, 0, 20) (by decide +kernel)).1
theorem ln_54 {h : PH} (a : SH h) : hL h 54 0 = 14 := (a.2.1 (54, 0, 14) (by decide +kernel)).1
theorem ln_55 {h : PH} (a : SH h) : hL h 55 0 = 12 := (a.2.1 (55, 0, 12) (by decide +kernel)).1
theorem ln_56 {h : PH} (a : SH h) : hL h 56 0 = 120 := (a.2.1 (56, 0, 120) (by decide +kernel)).1
theorem ln_57 {h : PH} (a : SH h) : hL h 57 0 = 96 := (a.2.1 (57, 0, 96) (by decide +kernel)).1
theorem ln_58 {h : PH} (a : SH h) : hL h 58 0 = 12 := (a.2.1 (58, 0, 12) (by decide +kernel)).1
theorem ln_59 {h : PH} (a : SH h) : hL h 59 0 = 120 := (a.2.1 (59, 0, 120) (by decide +kernel)).1
theorem ln_60 {h : PH} (a : SH h) : hL h 60 0 = 120 := (a.2.1 (60, 0, 120) (by decide +kernel)).1
theorem ln_61 {h : PH} (a : SH h) : hL h 61 0 = 10 := (a.2.1 (61, 0, 10) (by decide +kernel)).1
theorem ln_62 {h : PH} (a : SH h) : hL h 62 0 = 4 := (a.2.1 (62, 0, 4) (by decide +kernel)).1
theorem ln_63 {h : PH} (a : SH h) : hL h 63 0 = 4 := (a.2.1 (63, 0, 4) (by decide +kernel)).1
theorem ln_64 {h : PH} (a : SH h) : hL h 64 0 = 96 := (a.2.1 (64, 0, 96) (by decide +kernel)).1
theorem ln_65 {h : PH} (a : SH h) : hL h 65 0 = 5 := (a.2.1 (65, 0, 5) (by decide +kernel)).1
theorem ln_66 {h : PH} (a : SH h) : hL h 66 0 = 5 := (a.2.1 (66, 0, 5) (by decide +kernel)).1
theorem ln_67 {h : PH} (a : SH h) : hL h 67 0 = 5 := (a.2.1 (67, 0, 5) (by decide +kernel)).1
theorem ln_68 {h : PH} (a : SH h) : hL h 68 0 = 120 := (a.2.1 (68, 0, 120) (by decide +kernel)).1
theorem ln_69 {h : PH} (a : SH h) : hL h 69 0 = 24 := (a.2.1 (69, 0, 24) (by decide +kernel)).1
theorem ln_70 {h : PH} (a : SH h) : hL h 70 0 = 60 := (a.2.1 (70, 0, 60) (by decide +kernel)).1
theorem ln_14 {h : PH} (a : SH h) : ∀ i, i < 2 → hL h 14 i = 20 := by
  have e : ∀ i, i < 2 → (14, i, 20) ∈ lnList := by decide +kernel
  exact fun i hi => (a.2.1 _ (e i hi)).1
theorem ln_15 {h : PH} (a : SH h) : ∀ i, i < 2 → hL h 15 i = 96 := by
  have e : ∀ i, i < 2 → (15, i, 96) ∈ lnList := by decide +kernel
  exact fun i hi => (a.2.1 _ (e i hi)).1
theorem ln_16 {h : PH} (a : SH h) : ∀ i, i < 2 → hL h 16 i = 10 := by
  have e : ∀ i, i < 2 → (16, i, 10) ∈ lnList := by decide +kernel
  exact fun i hi => (a.2.1 _ (e i hi)).1
theorem ln_17 {h : PH} (a : SH h) : ∀ i, i < 2 → hL h 17 i = 10 := by
  have e : ∀ i, i < 2 → (17, i, 10) ∈ lnList := by decide +kernel
  exact fun i hi => (a.2.1 _ (e i hi)).1
theorem ln_18 {h : PH} (a : SH h) : ∀ i, i < 2 → hL h 18 i = 14 := by
  have e : ∀ i, i < 2 → (18, i, 14) ∈ lnList := by decide +kernel
  exact fun i hi => (a.2.1 _ (e i hi)).1
theorem ln_19 {h : PH} (a : SH h) : ∀ i, i < 2 → hL h 19 i = 14 := by
  have e : ∀ i, i < 2 → (19, i, 14) ∈ lnList := by decide +kernel
  exact fun i hi => (a.2.1 _ (e i hi)).1
theorem ln_20 {h : PH} (a : SH h) : ∀ i, i < 2 → hL h 20 i = 3 := by
  have e : ∀ i, i < 2 → (20, i, 3) ∈ lnList := by decide +kernel
  exact fun i hi => (a.2.1 _ (e i hi)).1
theorem ln_21 {h : PH} (a : SH h) : ∀ i, i < 2 → hL h 21 i = 6 := by
  have e : ∀ i, i < 2 → (21, i, 6) ∈ lnList := by decide +kernel
  exact fun i hi => (a.2.1 _ (e i hi)).1
theorem ln_24 {h : PH} (a : SH h) : ∀ i, i < 2 → hL h 24 i = 20 := by
  have e : ∀ i, i < 2 → (24, i, 20) ∈ lnList := by decide +kernel
  exact fun i hi => (a.2.1 _ (e i hi)).1
theorem ln_25 {h : PH} (a : SH h) : ∀ i, i < 2 → hL h 25 i = 120 := by
  have e : ∀ i, i < 2 → (25, i, 120) ∈ lnList := by decide +kernel
  exact fun i hi => (a.2.1 _ (e i hi)).1
theorem ln_26 {h : PH} (a : SH h) : ∀ i, i < 9 → hL h 26 i = 24 := by
  have e : ∀ i, i < 9 → (26, i, 24) ∈ lnList := by decide +kernel
  exact fun i hi => (a.2.1 _ (e i hi)).1
theorem ln_27 {h : PH} (a : SH h) : ∀ i, i < 28 → hL h 27 i = 6 := by
  have e : ∀ i, i < 28 → (27, i, 6) ∈ lnList := by decide +kernel
  exact fun i hi => (a.2.1 _ (e i hi)).1
theorem ln_28 {h : PH} (a : SH h) : ∀ i, i < 28 → hL h 28 i = 6 := by
  have e : ∀ i, i < 28 → (28, i, 6) ∈ lnList := by decide +kernel
  exact fun i hi => (a.2.1 _ (e i hi)).1
theorem ln_31 {h : PH} (a : SH h) : ∀ i, i < 2 → hL h 31 i = 14 := by
  have e : ∀ i, i < 2 → (31, i, 14) ∈ lnList := by decide +kernel
  exact fun i hi => (a.2.1 _ (e i hi)).1
theorem ln_32 {h : PH} (a : SH h) : ∀ i, i < 2 → hL h 32 i = 12 := by
  have e : ∀ i, i < 2 → (32, i, 12) ∈ lnList := by decide +kernel
  exact fun i hi => (a.2.1 _ (e i hi)).1
theorem ln_33 {h : PH} (a : SH h) : ∀ i, i < 2 → hL h 33 i = 12 := by
  have e : ∀ i, i < 2 → (33, i, 12) ∈ lnList := by decide +kernel
  exact fun i hi => (a.2.1 _ (e i hi)).1
theorem ln_34 {h : PH} (a : SH h) : ∀ i, i < 2 → hL h 34 i = 12 := by
  have e : ∀ i, i < 2 → (34, i, 12) ∈ lnList := by decide +kernel
  exact fun i hi => (a.2.1 _ (e i hi)).1
theorem ln_35 {h : PH} (a : SH h) : ∀ i, i < 2 → hL h 35 i = 96 := by
  have e : ∀ i, i < 2 → (35, i, 96) ∈ lnList := by decide +kernel
  exact fun i hi => (a.2.1 _ (e i hi)).1
theorem ln_36 {h : PH} (a : SH h) : ∀ i, i < 2 → hL h 36 i = 61 := by
  have e : ∀ i, i < 2 → (36, i, 61) ∈ lnList := by decide +kernel
  exact fun i hi => (a.2.1 _ (e i hi)).1
theorem ln_13 {h : PH} (a : SH h) : ∀ i, i < 16 → hL h 13 i = 98 := by
  have e : ∀ i, i < 16 → (13, i, 98) ∈ lnList := by decide +kernel
  exact fun i hi => (a.2.1 _ (e i hi)).1
/-! calls that go straight -/
theorem X11_seed_eq {h : PH} (a : SH h) (x : Int32) : X11_seed 0 x h = some (some (.inl (hI h 80 0 0)), pI h 80 0 0 x) := by
  simp [X11_seed, X11_seed_g0, X11_seed_f0, nn, wr, sh_640 a]
theorem X12_seed_eq {h : PH} (a : SH h) (x : Int32) : X12_seed 0 x h = some (some (.inl (hI h 2624 0 0)), pI h 2624 0 0 x) := by
  simp [X12_seed, X12_seed_g0, X12_seed_f0, nn, wr, ix, sh_704 a, ln_41 a]
theorem X11_clear_eq {h : PH} (a : SH h) : X11_clear 0 h = some (some (.inl (hI h 77 0 0)), pI h 77 0 0 0) := by
  simp [X11_clear, X11_clear_g0, X11_clear_f0, nn, wr, sh_640 a]
theorem X12_clear_eq {h : PH} (a : SH h) : X12_clear 0 h = some (some (.inl (hI h 2624 0 7)), pI h 2624 0 7 0) := by
  simp [X12_clear, X12_clear_g0, X12_clear_f0, nn, wr, ix, sh_704 a, ln_41 a]
theorem X11_place_eq {h : PH} (a : SH h) : X11_place 0 h = some (if hI h 72 0 0 < 12 then (some (.inl (hI h 72 0 0)), pI h 72 0 0 (hI h 72 0 0 + 1)) else (some (.inl (-1000000003)), h)) := by
  by_cases c : hI h 72 0 0 < 12 <;> simp [X11_place, X11_place_g0, X11_place_f0, nn, wr, sh_640 a, c]
theorem X12_place_eq {h : PH} (a : SH h) : X12_place 0 h = some (if hI h 2624 0 3 = 12 then (some (.inl (-1000000003)), h) else (some (.inl (hI h 2624 0 3 + 1 - 1)), pI h 2624 0 3 (hI h 2624 0 3 + 1))) := by
  by_cases c : hI h 2624 0 3 = 12 <;> simp [X12_place, X12_place_g0, X12_place_f0, nn, wr, ix, sh_704 a, ln_41 a, hI_pI, hR_pI, hL_pI, c]
theorem X12_in_eq (x l u : Int32) (h : PH) : X12_in x l u h = some (some (.inl (if x < l then 0 else if u < x then 0 else 1)), h) := by
  by_cases c : x < l <;> by_cases d : u < x <;> simp [X12_in, X12_in_g0, X12_in_f0, bz, c, d]
theorem X11_isWithin_eq (x n : Int32) (h : PH) : X11_isWithin x n h = some (some (.inl (if x < 0 then 0 else if x < n then 1 else 0)), h) := by
  by_cases c : x < 0 <;> by_cases d : x < n <;> simp [X11_isWithin, X11_isWithin_g0, X11_isWithin_f0, bz, c, d]
