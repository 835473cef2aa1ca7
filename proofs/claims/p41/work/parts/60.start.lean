/-! THE START: what the machine is at the law's entry, as the rows have it -/
abbrev pre1 : Cond := Jvm.Cond.and given_1 narrow_1
theorem st9_sub {L M : List Cond} (is : List Nat) (h : (decide (L = is.filterMap (fun i => M[i]?))) = true) : ∀ w ∈ L, w ∈ M := by
  intro w hw
  rw [of_decide_eq_true h] at hw
  obtain ⟨i, -, hi⟩ := List.mem_filterMap.mp hw
  exact List.mem_of_getElem? hi
theorem st9_nk : ∀ w ∈ lw_nk, w ∈ lw_tbl := st9_sub [165, 191, 473, 480, 1093, 309, 659, 672, 734, 791, 1024, 311, 313, 315] (by decide +kernel)
theorem st9_sr : ∀ w ∈ lw_tx.map (fun x => Cond.stringRef x.1 x.2.1 x.2.2), w ∈ lw_tbl := st9_sub [839, 840, 841, 842, 843, 844, 845, 846, 1149, 1411, 352, 697, 702, 666, 679, 1080, 1081, 741, 1105, 1175, 759, 767, 776, 798, 924, 951, 952, 1163, 1031, 973, 981, 994, 1412, 1217, 1338, 1399, 1400, 1401, 1402] (by decide +kernel)
theorem st9_ex : ∀ w ∈ lw_tx.map (fun x => Cond.exactly (.string x.1 x.2.1) "java/lang/String"), w ∈ flatC pre1 := st9_sub [582, 592, 600, 606, 612, 618, 624, 630, 884, 992, 300, 384, 410, 329, 355, 796, 822, 435, 854, 923, 473, 506, 532, 555, 634, 658, 688, 893, 776, 711, 730, 755, 997, 953, 958, 971, 976, 982, 987] (by decide +kernel)
theorem st9_nc : ∀ w ∈ lw_nc.map (fun q => Cond.not (.castable q.1 q.2)), w ∈ flatC pre1 := st9_sub [239, 240, 252, 251] (by decide +kernel)
def st9_st : List Cond := [.isRef (.static "java/lang/Throwable" "UNASSIGNED_STACK" "[Ljava/lang/StackTraceElement;"), .isRef (.static "java/lang/Throwable" "SUPPRESSED_SENTINEL" "Ljava/util/List;"), .eq (.static "java/lang/String" "COMPACT_STRINGS" "Z") (.int 1), .isRef (.static "jdk/internal/util/Preconditions" "SIOOBE_FORMATTER" "Ljava/util/function/BiFunction;")]
theorem st9_stin : ∀ w ∈ st9_st, w ∈ flatC pre1 := st9_sub [4, 5, 6, 7] (by decide +kernel)
def st9_sl : List Cond := [.laysStatic "java/lang/Throwable" "UNASSIGNED_STACK" "[Ljava/lang/StackTraceElement;", .laysStatic "java/lang/Throwable" "SUPPRESSED_SENTINEL" "Ljava/util/List;", .laysStatic "java/lang/String" "COMPACT_STRINGS" "Z", .laysStatic "jdk/internal/util/Preconditions" "SIOOBE_FORMATTER" "Ljava/util/function/BiFunction;", .initialized "java/lang/Throwable", .initialized "java/lang/String", .initialized "jdk/internal/util/Preconditions", .arrayOver (.object "MirageSurvey$Flat")]
theorem st9_slin : ∀ w ∈ st9_sl, w ∈ lw_tbl := st9_sub [334, 336, 856, 872, 36, 44, 46, 151] (by decide +kernel)
/-- the words of a text that is read -/
def st9_sw (own : String) (k : Nat) (bs : List Int32) : List Cond :=
  [.exactly (.string own k) "java/lang/String", .eq (.field (.string own k) "java/lang/String" "coder" "B") (.int 0), .arrayOf (.field (.string own k) "java/lang/String" "value" "[B") .byte, .eq (.length (.field (.string own k) "java/lang/String" "value" "[B")) (.int (Int32.ofNat bs.length))] ++
  (List.range bs.length).map (fun j => .eq (.elem (.field (.string own k) "java/lang/String" "value" "[B") (.int (Int32.ofNat j))) (.int (bs.getD j 0)))
theorem st9_swin : ∀ w ∈ (lw_tx.zip lw_by).flatMap (fun y => st9_sw y.1.1 y.1.2.1 y.2), w ∈ flatC pre1 := st9_sub [582, 583, 584, 585, 586, 587, 588, 589, 590, 591, 592, 593, 594, 595, 596, 597, 598, 599, 600, 601, 602, 603, 604, 605, 606, 607, 608, 609, 610, 611, 612, 613, 614, 615, 616, 617, 618, 619, 620, 621, 622, 623, 624, 625, 626, 627, 628, 629, 630, 631, 632, 633, 884, 885, 886, 887, 888, 889, 890, 891, 892, 992, 993, 994, 995, 996, 300, 301, 302, 303, 304, 305, 306, 307, 308, 309, 310, 311, 312, 313, 314, 315, 316, 317, 318, 319, 320, 321, 322, 323, 324, 325, 326, 327, 328, 384, 385, 386, 387, 388, 389, 390, 391, 392, 393, 394, 395, 396, 397, 398, 399, 400, 401, 402, 403, 404, 405, 406, 407, 408, 409, 410, 411, 412, 413, 414, 415, 416, 417, 418, 419, 420, 421, 422, 423, 424, 425, 426, 427, 428, 429, 430, 431, 432, 433, 434, 329, 330, 331, 332, 333, 334, 335, 336, 337, 338, 339, 340, 341, 342, 343, 344, 345, 346, 347, 348, 349, 350, 351, 352, 353, 354, 355, 356, 357, 358, 359, 360, 361, 362, 363, 364, 365, 366, 367, 368, 369, 370, 371, 372, 373, 374, 375, 376, 377, 378, 379, 380, 381, 382, 383, 796, 797, 798, 799, 800, 801, 802, 803, 804, 805, 806, 807, 808, 809, 810, 811, 812, 813, 814, 815, 816, 817, 818, 819, 820, 821, 822, 823, 824, 825, 826, 827, 828, 829, 830, 831, 832, 833, 834, 835, 836, 837, 838, 839, 840, 841, 842, 843, 844, 845, 846, 847, 848, 849, 850, 851, 852, 853, 435, 436, 437, 438, 439, 440, 441, 442, 443, 444, 445, 446, 447, 448, 449, 450, 451, 452, 453, 454, 455, 456, 457, 458, 459, 460, 461, 462, 463, 464, 465, 466, 467, 468, 469, 470, 471, 472, 854, 855, 856, 857, 858, 859, 860, 861, 862, 863, 864, 865, 866, 867, 868, 869, 870, 871, 872, 873, 874, 875, 876, 877, 878, 879, 880, 881, 882, 883, 923, 924, 925, 926, 927, 928, 929, 930, 931, 932, 933, 934, 935, 936, 937, 938, 939, 940, 941, 942, 943, 944, 945, 946, 947, 948, 949, 950, 951, 952, 473, 474, 475, 476, 477, 478, 479, 480, 481, 482, 483, 484, 485, 486, 487, 488, 489, 490, 491, 492, 493, 494, 495, 496, 497, 498, 499, 500, 501, 502, 503, 504, 505, 506, 507, 508, 509, 510, 511, 512, 513, 514, 515, 516, 517, 518, 519, 520, 521, 522, 523, 524, 525, 526, 527, 528, 529, 530, 531, 532, 533, 534, 535, 536, 537, 538, 539, 540, 541, 542, 543, 544, 545, 546, 547, 548, 549, 550, 551, 552, 553, 554, 555, 556, 557, 558, 559, 560, 561, 562, 563, 564, 565, 566, 567, 568, 569, 570, 571, 572, 573, 574, 575, 576, 577, 578, 579, 580, 581, 634, 635, 636, 637, 638, 639, 640, 641, 642, 643, 644, 645, 646, 647, 648, 649, 650, 651, 652, 653, 654, 655, 656, 657, 658, 659, 660, 661, 662, 663, 664, 665, 666, 667, 668, 669, 670, 671, 672, 673, 674, 675, 676, 677, 678, 679, 680, 681, 682, 683, 684, 685, 686, 687, 688, 689, 690, 691, 692, 693, 694, 695, 696, 697, 698, 699, 700, 701, 702, 703, 704, 705, 706, 707, 708, 709, 710, 893, 894, 895, 896, 897, 898, 899, 900, 901, 902, 903, 904, 905, 906, 907, 908, 909, 910, 911, 912, 913, 914, 915, 916, 917, 918, 919, 920, 921, 922, 776, 777, 778, 779, 780, 781, 782, 783, 784, 785, 786, 787, 788, 789, 790, 791, 792, 793, 794, 795, 711, 712, 713, 714, 715, 716, 717, 718, 719, 720, 721, 722, 723, 724, 725, 726, 727, 728, 729, 730, 731, 732, 733, 734, 735, 736, 737, 738, 739, 740, 741, 742, 743, 744, 745, 746, 747, 748, 749, 750, 751, 752, 753, 754, 755, 756, 757, 758, 759, 760, 761, 762, 763, 764, 765, 766, 767, 768, 769, 770, 771, 772, 773, 774, 775, 997, 998, 999, 1000, 1001, 1002, 1003, 1004, 1005, 1006, 1007, 1008, 953, 954, 955, 956, 957, 958, 959, 960, 961, 962, 963, 971, 972, 973, 974, 975, 976, 977, 978, 979, 980, 981, 982, 983, 984, 985, 986, 987, 988, 989, 990, 991] (by decide +kernel)
theorem st9_string {args : Array Value} {s : State} {A : Nat → Prop} {own : String} {k : Nat} {bs : List Int32} (hl : bs.length < 2 ^ 31) (h : ∀ w ∈ st9_sw own k bs, w.before args s = true) (hA : ∀ a : Nat, a < s.heap.size → ¬ A a) :
    ∃ q : Nat × Nat, (Term.string own k).eval args s none [] s = some (.ref q.1) ∧ vk_S 1 [bs.length] [bs] (fun _ => q.1) (fun _ => q.2) A s s.heap := by
  obtain ⟨adK, adV, hS, he⟩ := vk_Sof (args := args) (s := s) (N := 1) (tm := fun _ => .string own k) (len := [bs.length]) (byt := [bs]) (A := A) (fun i hi => by obtain rfl : i = 0 := (by omega); exact hl)
    (fun i hi => h _ (by simp [st9_sw])) (fun i hi => h _ (by simp [st9_sw])) (fun i hi => h _ (by simp [st9_sw])) (fun i hi => by obtain rfl : i = 0 := (by omega); exact h _ (by simp [st9_sw]))
    (fun i hi j hj => by
      obtain rfl : i = 0 := by omega
      refine h _ (List.mem_append_right _ (List.mem_map.mpr ⟨j, List.mem_range.mpr hj, rfl⟩))) (fun i j hi hj hij => absurd (show i = j by omega) hij) hA
  refine ⟨(adK 0, adV 0), he 0 (by decide), fun i hi => ?_, fun i j hi hj _ => by omega⟩
  obtain rfl : i = 0 := by omega
  exact hS.1 0 (by decide)
theorem st9_texts {args : Array Value} {s : State} {A : Nat → Prop} (hts : ∀ w ∈ lw_tbl, w.before args s = true) (hgv : pre1.before args s = true) (hA : ∀ a : Nat, a < s.heap.size → ¬ A a) :
    ∃ ad : Nat → Nat × Nat, (∀ (i : Nat) (x : String × Nat × String), lw_tx[i]? = some x → vk_R x.1 x.2.1 x.2.2 (ad i).1 s) ∧ (∀ (i : Nat) (b : List Int32), lw_by[i]? = some b → vk_S 1 [b.length] [b] (fun _ => (ad i).1) (fun _ => (ad i).2) A s s.heap) := by
  have hf := flat_of_before _ hgv
  have h0 : ∀ i : Nat, ∃ q : Nat × Nat, (∀ x : String × Nat × String, lw_tx[i]? = some x → vk_R x.1 x.2.1 x.2.2 q.1 s) ∧ (∀ b : List Int32, lw_by[i]? = some b → vk_S 1 [b.length] [b] (fun _ => q.1) (fun _ => q.2) A s s.heap) := by
    intro i
    cases hx : lw_tx[i]? with
    | none =>
      refine ⟨(0, 0), fun x h => (by cases h), fun b hb => ?_⟩
      have h1 : 39 ≤ i := List.getElem?_eq_none_iff.mp hx
      have h2 : lw_by[i]? = none := List.getElem?_eq_none_iff.mpr (Nat.le_trans (by decide) h1)
      rw [h2] at hb; cases hb
    | some x =>
      have hsr : (Cond.stringRef x.1 x.2.1 x.2.2).before args s = true := hts _ (st9_sr _ (List.mem_map.mpr ⟨x, List.mem_of_getElem? hx, rfl⟩))
      cases hb : lw_by[i]? with
      | none =>
        obtain ⟨a, c, cell, k, q1, -⟩ := Cond.exactly_spec (args := args) (first := s) (o := none) (s := s) (idx := []) (hf _ (st9_ex _ (List.mem_map.mpr ⟨x, List.mem_of_getElem? hx, rfl⟩)))
        exact ⟨(a, 0), fun y h => (by cases h; exact vk_R.of hsr q1), fun b h => (by cases h)⟩
      | some b =>
        have hz : (x, b) ∈ lw_tx.zip lw_by := List.mem_of_getElem? (i := i) (by rw [List.getElem?_zip_eq_some]; exact ⟨hx, hb⟩)
        have hbl : b.length < 2 ^ 31 := by
          have h9 : ∀ b ∈ lw_by, b.length < 2 ^ 31 := by decide
          exact h9 b (List.mem_of_getElem? hb)
        obtain ⟨q, q1, q2⟩ := st9_string (own := x.1) (k := x.2.1) (bs := b) hbl (fun w hw => hf w (st9_swin w (List.mem_flatMap.mpr ⟨(x, b), hz, hw⟩))) hA
        exact ⟨q, fun y h => (by cases h; exact vk_R.of hsr q1), fun b' h => by cases h; exact q2⟩
  obtain ⟨ad, had⟩ := Classical.axiomOfChoice h0
  exact ⟨ad, fun i x h => (had i).1 x h, fun i b h => (had i).2 b h⟩
theorem in_Jx00060 : ∀ w ∈ u_ws RJx00060 TJx00060 6, w ∈ lw_all := by
  have h : (u_ws RJx00060 TJx00060 6).all (fun w => decide (w ∈ lw_tbl) && goodWord w) = true := by decide +kernel
  intro w hw
  have h1 := List.all_eq_true.mp h w hw
  simp only [Bool.and_eq_true, decide_eq_true_eq] at h1
  exact lw_in h1.1 h1.2
theorem st9_classes {args : Array Value} {s : State} (hts : ∀ w ∈ lw_all, w.before args s = true) : ∃ D : va_G, ∀ (c : Nat) (q : vw_C), vwCl[c]? = some q → u_Kn s q.1 q.2.1 q.2.2 (D.1 c) (D.2 c) := by
  have h0 : ∀ c : Nat, ∃ d : ClassId × (Nat → Nat), ∀ q : vw_C, vwCl[c]? = some q → u_Kn s q.1 q.2.1 q.2.2 d.1 d.2 := by
    intro c
    have h1 : ∀ q ∈ vwCl, ∃ d : ClassId × (Nat → Nat), u_Kn s q.1 q.2.1 q.2.2 d.1 d.2 := by
      intro q hq
      simp only [vwCl, List.mem_cons, List.not_mem_nil, or_false] at hq
      rcases hq with rfl | rfl | rfl | rfl | rfl | rfl | rfl | rfl | rfl
      · obtain ⟨a, b, h⟩ := u_known hts in_J0 (hts _ qm_String); exact ⟨(a, b), h⟩
      · obtain ⟨a, b, h⟩ := u_known hts in_Jx00060 (hts _ qm_ArrayIndexOutOfBoundsException); exact ⟨(a, b), h⟩
      · obtain ⟨a, b, h⟩ := u_known hts in_X0 (hts _ qm_X0); exact ⟨(a, b), h⟩
      · obtain ⟨a, b, h⟩ := u_known hts in_X1 (hts _ qm_X1); exact ⟨(a, b), h⟩
      · obtain ⟨a, b, h⟩ := u_known hts in_X2 (hts _ qm_X2); exact ⟨(a, b), h⟩
      · obtain ⟨a, b, h⟩ := u_known hts in_X3 (hts _ qm_X3); exact ⟨(a, b), h⟩
      · obtain ⟨a, b, h⟩ := u_known hts in_X4 (hts _ qm_X4); exact ⟨(a, b), h⟩
      · obtain ⟨a, b, h⟩ := u_known hts in_X5 (hts _ qm_X5); exact ⟨(a, b), h⟩
      · obtain ⟨a, b, h⟩ := u_known hts in_J4 (hts _ qm_StringBuilder); exact ⟨(a, b), h⟩
    cases hc : vwCl[c]? with
    | none => exact ⟨(0, fun _ => 0), fun q h => by cases h⟩
    | some q =>
      obtain ⟨d, hd⟩ := h1 q (List.mem_of_getElem? hc)
      exact ⟨d, fun q' h => by cases h; exact hd⟩
  obtain ⟨ad, had⟩ := Classical.axiomOfChoice h0
  exact ⟨(fun c => (ad c).1, fun c => (ad c).2), fun c q h => had c q h⟩
theorem st9_prim {args : Array Value} {s : State} {ty : FieldType} (hp : ∀ C, ty ≠ .object C) (h : (Cond.arrayClass ty).before args s = true) : ∃ cA : ClassId, ArrOfT s cA ty ∧ va_RA s cA ty := by
  obtain ⟨cA, kA, comp, h1, h2, h3⟩ := Cond.arrayClass_spec h
  refine ⟨cA, fun n z => ⟨fun k h => (by cases h), kA, h2, comp, h3⟩, ?_⟩
  cases ty with
  | object C => exact absurd rfl (hp C)
  | _ => exact h1
theorem st9_flat {args : Array Value} {s : State} {C : String} (h : (Cond.arrayOver (.object C)).before args s = true) : ∃ cA : ClassId, ArrOfT s cA (.object C) ∧ va_RA s cA (.object C) := by
  obtain ⟨comp, cA, kA, h1, -, h2, h3, h4⟩ := Cond.arrayOver_spec h
  exact ⟨cA, fun n z => ⟨fun k h => (by cases h), kA, h2, comp, h3⟩, kA, comp, h2, h3, h1, h4⟩
/-- Integer's tables -/
theorem st9_tbl {args : Array Value} {s : State} {name : String} (h1 : (Cond.laysStatic "java/lang/Integer" name "[B").before args s = true) (h2 : (Cond.exactly (.static "java/lang/Integer" name "[B") "[B").before args s = true) (h3 : (Cond.eq (.length (.static "java/lang/Integer" name "[B")) (.int 100)).before args s = true)
    (h4 : ∀ r, r < 100 → ∃ v : Int32, (Cond.eq (.elem (.static "java/lang/Integer" name "[B") (.int (Int32.ofNat r))) (.int v)).before args s = true) (hini : (Cond.initialized "java/lang/Integer").before args s = true) (harr : (Cond.arrayClass .byte).before args s = true) :
    ∃ (c : ClassId) (k : Class) (st d : Addr) (D : Cell), s.vm.findClass "java/lang/Integer" = some c ∧ s.vm.classes[c]? = some k ∧ k.statics = some st ∧ Jvm.Free.SBG.Tbl s name st d D := by
  obtain ⟨c, k, i, f, st, cell, hc, hi, hst, ha, hcell, hs, hcls, hlt, hty⟩ := Cond.laysStatic_spec h1
  obtain ⟨d, cB, D, kB, hev, hfcB, hcellD, hkB, hstatD, hclsD, -⟩ := Cond.exactly_spec h2
  have hsl : cell.slots[f.slot]? = some (.ref d) := by have := hev; rw [Jvm.Free.AList.static_eval' hi hst ha hcell hs] at this; exact this
  have hl := Cond.eq_int h3 rfl
  obtain ⟨d', D', hev', harrAt, hlen⟩ := Term.length_spec hl
  cases hev.symm.trans hev'
  obtain ⟨hcellD', hknD, -, -⟩ := State.arrayAt?_spec harrAt
  cases hcellD.symm.trans hcellD'
  have h31 := Jvm.Free.SBG.length_lt hev harrAt hl
  have hsz : D.slots.size = 100 := by
    have h2 : Int32.ofNat D.slots.size = Int32.ofNat 100 := (Value.int.inj hlen).symm
    have := congrArg Int32.toInt h2
    rw [show (Int32.ofNat D.slots.size).toInt = (D.slots.size : Int) from nI_toInt h31, show (Int32.ofNat 100).toInt = 100 from rfl] at this; omega
  obtain ⟨cB', kB', comp, hnameB, hkB', hkindB⟩ := Cond.arrayClass_spec harr
  have eBA : ("[" ++ FieldType.toString .byte) = "[B" := by decide
  rw [eBA] at hnameB
  cases hfcB.symm.trans hnameB
  cases hkB.symm.trans hkB'
  refine ⟨c, k, st, d, D, hc, (State.fieldFound?_spec hi).1, ha, c, i, k, f, cell, hi, hst, Cond.initialized_spec hc (State.fieldFound?_spec hi).1 hini, ha, hcell, (fun h => by rw [h] at hs; cases hs), hsl, hcellD,
    ⟨(fun q h => by rw [h] at hstatD; cases hstatD), kB, (by rw [hclsD]; exact hkB), comp, hkindB⟩, hknD, hsz, fun r hr => ?_⟩
  obtain ⟨v, hv⟩ := h4 r hr
  have hel := Cond.eq_int hv rfl
  have hsr : D.slots[r]? = some (.int v) := by
    have hq : (Int32.ofNat r).toNatClampNeg = r := nI_clamp (by omega)
    have hq0 : ¬ Int32.ofNat r < 0 := nI_pos (by omega)
    have key : ∀ t : Term, t.eval args s none [] s = some (.ref d) → (Term.elem t (.int (Int32.ofNat r))).eval args s none [] s = some (.int v) → D.slots[r]? = some (.int v) := by
      intro t ht hel
      simp only [Term.eval, ht, harrAt] at hel
      simpa [hq, hq0, harrAt] using hel
    exact key _ hev hel
  rw [hsr]
  have hgd : D.slots.getD r .null = .int v := by
    rw [Array.getD_eq_getD_getElem?, hsr]; rfl
  simp only [Jvm.Free.SBG.iAt, hgd]
def st9_vDigitOnes : List Int32 := [48, 49, 50, 51, 52, 53, 54, 55, 56, 57, 48, 49, 50, 51, 52, 53, 54, 55, 56, 57, 48, 49, 50, 51, 52, 53, 54, 55, 56, 57, 48, 49, 50, 51, 52, 53, 54, 55, 56, 57, 48, 49, 50, 51, 52, 53, 54, 55, 56, 57, 48, 49, 50, 51, 52, 53, 54, 55, 56, 57, 48, 49, 50, 51, 52, 53, 54, 55, 56, 57, 48, 49, 50, 51, 52, 53, 54, 55, 56, 57, 48, 49, 50, 51, 52, 53, 54, 55, 56, 57, 48, 49, 50, 51, 52, 53, 54, 55, 56, 57]
theorem st9_eDigitOnes : ∀ w ∈ (List.range 100).map (fun r => Cond.eq (.elem (.static "java/lang/Integer" "DigitOnes" "[B") (.int (Int32.ofNat r))) (.int (st9_vDigitOnes.getD r 0))), w ∈ flatC pre1 := st9_sub [14, 15, 16, 17, 18, 19, 20, 21, 22, 23, 24, 25, 26, 27, 28, 29, 30, 31, 32, 33, 34, 35, 36, 37, 38, 39, 40, 41, 42, 43, 44, 45, 46, 47, 48, 49, 50, 51, 52, 53, 54, 55, 56, 57, 58, 59, 60, 61, 62, 63, 64, 65, 66, 67, 68, 69, 70, 71, 72, 73, 74, 75, 76, 77, 78, 79, 80, 81, 82, 83, 84, 85, 86, 87, 88, 89, 90, 91, 92, 93, 94, 95, 96, 97, 98, 99, 100, 101, 102, 103, 104, 105, 106, 107, 108, 109, 110, 111, 112, 113] (by decide +kernel)
theorem st9_xDigitOnes : ∀ w ∈ [Cond.exactly (.static "java/lang/Integer" "DigitOnes" "[B") "[B", Cond.eq (.length (.static "java/lang/Integer" "DigitOnes" "[B")) (.int 100)], w ∈ flatC pre1 := st9_sub [1009, 13] (by decide +kernel)
theorem st9_lDigitOnes : Cond.laysStatic "java/lang/Integer" "DigitOnes" "[B" ∈ lw_tbl := List.mem_of_getElem? (i := 1327) (by decide +kernel)
def st9_vDigitTens : List Int32 := [48, 48, 48, 48, 48, 48, 48, 48, 48, 48, 49, 49, 49, 49, 49, 49, 49, 49, 49, 49, 50, 50, 50, 50, 50, 50, 50, 50, 50, 50, 51, 51, 51, 51, 51, 51, 51, 51, 51, 51, 52, 52, 52, 52, 52, 52, 52, 52, 52, 52, 53, 53, 53, 53, 53, 53, 53, 53, 53, 53, 54, 54, 54, 54, 54, 54, 54, 54, 54, 54, 55, 55, 55, 55, 55, 55, 55, 55, 55, 55, 56, 56, 56, 56, 56, 56, 56, 56, 56, 56, 57, 57, 57, 57, 57, 57, 57, 57, 57, 57]
theorem st9_eDigitTens : ∀ w ∈ (List.range 100).map (fun r => Cond.eq (.elem (.static "java/lang/Integer" "DigitTens" "[B") (.int (Int32.ofNat r))) (.int (st9_vDigitTens.getD r 0))), w ∈ flatC pre1 := st9_sub [117, 118, 119, 120, 121, 122, 123, 124, 125, 126, 127, 128, 129, 130, 131, 132, 133, 134, 135, 136, 137, 138, 139, 140, 141, 142, 143, 144, 145, 146, 147, 148, 149, 150, 151, 152, 153, 154, 155, 156, 157, 158, 159, 160, 161, 162, 163, 164, 165, 166, 167, 168, 169, 170, 171, 172, 173, 174, 175, 176, 177, 178, 179, 180, 181, 182, 183, 184, 185, 186, 187, 188, 189, 190, 191, 192, 193, 194, 195, 196, 197, 198, 199, 200, 201, 202, 203, 204, 205, 206, 207, 208, 209, 210, 211, 212, 213, 214, 215, 216] (by decide +kernel)
theorem st9_xDigitTens : ∀ w ∈ [Cond.exactly (.static "java/lang/Integer" "DigitTens" "[B") "[B", Cond.eq (.length (.static "java/lang/Integer" "DigitTens" "[B")) (.int 100)], w ∈ flatC pre1 := st9_sub [1010, 116] (by decide +kernel)
theorem st9_lDigitTens : Cond.laysStatic "java/lang/Integer" "DigitTens" "[B" ∈ lw_tbl := List.mem_of_getElem? (i := 1329) (by decide +kernel)
theorem st9_ini : Cond.initialized "java/lang/Integer" ∈ lw_tbl := List.mem_of_getElem? (i := 59) (by decide +kernel)
theorem st9_digits {args : Array Value} {s : State} (hts : ∀ w ∈ lw_tbl, w.before args s = true) (hgv : pre1.before args s = true) (hb : (Cond.arrayClass .byte).before args s = true) : ∃ (st d1 d2 : Addr) (D1 D2 : Cell), Jvm.Free.SBG.Tbl s "DigitOnes" st d1 D1 ∧ Jvm.Free.SBG.Tbl s "DigitTens" st d2 D2 := by
  have hf := flat_of_before _ hgv
  obtain ⟨c1, k1, st1, d1, D1, a1, a2, a3, t1⟩ := st9_tbl (hts _ st9_lDigitOnes) (hf _ (st9_xDigitOnes _ (by simp))) (hf _ (st9_xDigitOnes _ (by simp))) (fun r hr => ⟨_, hf _ (st9_eDigitOnes _ (List.mem_map.mpr ⟨r, List.mem_range.mpr hr, rfl⟩))⟩) (hts _ st9_ini) hb
  obtain ⟨c2, k2, st2, d2, D2, b1, b2, b3, t2⟩ := st9_tbl (hts _ st9_lDigitTens) (hf _ (st9_xDigitTens _ (by simp))) (hf _ (st9_xDigitTens _ (by simp))) (fun r hr => ⟨_, hf _ (st9_eDigitTens _ (List.mem_map.mpr ⟨r, List.mem_range.mpr hr, rfl⟩))⟩) (hts _ st9_ini) hb
  cases a1.symm.trans b1
  cases a2.symm.trans b2
  cases a3.symm.trans b3
  exact ⟨st1, d1, d2, D1, D2, t1, t2⟩
theorem tb_st {U : State} {n : String} {st d : Addr} {D : Cell} (h : Jvm.Free.SBG.Tbl U n st d D) : st < U.heap.size ∧ d < U.heap.size := by
  have h2 := tb_D h
  obtain ⟨_, _, _, _, _, _, _, _, _, h5, _⟩ := h
  exact ⟨(Array.getElem?_eq_some_iff.mp h5).1, (Array.getElem?_eq_some_iff.mp h2).1⟩
theorem ofNat_toNat9 (v : Int32) : Int32.ofNat v.toUInt32.toNat = v := by
  have h : Int32.ofNat v.toUInt32.toNat = (UInt32.ofNat v.toUInt32.toNat).toInt32 := rfl
  rw [h, UInt32.ofNat_toNat]
  rfl
theorem st9_priv {args : Array Value} {s : State} (hts : ∀ w ∈ lw_tbl, w.before args s = true) : hPV s := by
  intro y hy
  have h : Cond.privateMethod y ∈ lw_tbl := by
    simp only [sbPr, List.mem_cons, List.not_mem_nil, or_false] at hy
    rcases hy with rfl | rfl | rfl
    · exact List.mem_of_getElem? (i := 1230) (by decide +kernel)
    · exact List.mem_of_getElem? (i := 1280) (by decide +kernel)
    · exact List.mem_of_getElem? (i := 1284) (by decide +kernel)
  exact Cond.privateMethod_warm (args := args) (args' := #[]) (State.WarmedH.refl s) (hts _ h)
theorem st9_start {args : Array Value} {s : State} {b L : Nat} {xs : Nat → Int32} (hX : va_X b L xs s s.heap) (hbl : b < s.heap.size) (hL : L ≤ 260) (hts : ∀ w ∈ lw_tbl, w.before args s = true) (hgv : pre1.before args s = true) : ∃ g : GC, gB g = s.heap.size ∧ gSb g = b ∧ hE g s := by
  have hta : ∀ w ∈ lw_all, w.before args s = true := fun w hw => hts w (List.mem_filter.mp hw).1
  have hf := flat_of_before _ hgv
  have hA : ∀ a : Nat, a < s.heap.size → ¬ (fun q => s.heap.size ≤ q) a := fun a h => Nat.not_le.mpr h
  obtain ⟨D, hD⟩ := st9_classes hta
  obtain ⟨cI, i1, i2⟩ := st9_prim (ty := .int) (fun C h => by cases h) (hta _ qa_int)
  obtain ⟨cJ, j1, j2⟩ := st9_prim (ty := .long) (fun C h => by cases h) (hta _ qa_long)
  obtain ⟨cD, d1, d2⟩ := st9_prim (ty := .byte) (fun C h => by cases h) (hta _ qa_byte)
  obtain ⟨cC, c1, c2⟩ := st9_prim (ty := .char) (fun C h => by cases h) (hta _ qa_char)
  have hl : ∀ (w : Cond), w ∈ st9_sl → w.before args s = true := fun w hw => hts w (st9_slin w hw)
  have hv : ∀ (w : Cond), w ∈ st9_st → w.before args s = true := fun w hw => hf w (st9_stin w hw)
  obtain ⟨cF, f1, f2⟩ := st9_flat (C := RX0) (hl (.arrayOver (.object "MirageSurvey$Flat")) (by simp [st9_sl]))
  obtain ⟨ad, t1, t2⟩ := st9_texts (A := fun q => s.heap.size ≤ q) hts hgv hA
  obtain ⟨i1a, d1a, d2a, D1a, D2a, t1a, t2a⟩ := st9_digits hts hgv (hta _ qa_byte)
  obtain ⟨G, hG⟩ : ∃ G : Nat → Nat, G = fun i => if i < 1000 then (ad i).2 else if i = 1000 then b else if i = 1001 then L else (xs (i - 1002)).toUInt32.toNat := ⟨_, rfl⟩
  have gb : G 1000 = b := by rw [hG]; rfl
  have gl : G 1001 = L := by rw [hG]; rfl
  have gx : ∀ k, Int32.ofNat (G (1002 + k)) = xs k := fun k => by
    rw [hG]
    show Int32.ofNat (if 1002 + k < 1000 then _ else if 1002 + k = 1000 then b else if 1002 + k = 1001 then L else (xs (1002 + k - 1002)).toUInt32.toNat) = _
    rw [if_neg (by omega), if_neg (by omega), if_neg (by omega), Nat.add_sub_cancel_left]
    exact ofNat_toNat9 _
  refine ⟨(D, (cI, cJ, cD, cC, cF), s.heap.size, fun i => (ad i).1, G), rfl, gb, ⟨hD, ?_⟩, Nat.le_refl _, ?_⟩
  · intro k q hq
    have hm : q ∈ gT (D, (cI, cJ, cD, cC, cF), s.heap.size, (fun i => (ad i).1), G) := List.mem_of_getElem? hq
    simp only [gT, gI, gJ, gD, gC, gF, List.mem_cons, List.not_mem_nil, or_false] at hm
    rcases hm with rfl | rfl | rfl | rfl | rfl
    · exact ⟨i1, i2⟩
    · exact ⟨j1, j2⟩
    · exact ⟨d1, d2⟩
    · exact ⟨c1, c2⟩
    · exact ⟨f1, f2⟩
  · have t3 : ∀ (i : Nat) (bs : List Int32), lw_by[i]? = some bs → vk_S 1 [bs.length] [bs] (fun _ => (ad i).1) (fun _ => G i) (fun q => s.heap.size ≤ q) s s.heap := fun i bs h => by
      have hi : i < 39 := (List.getElem?_eq_some_iff.mp h).1
      rw [show G i = (ad i).2 by rw [hG]; exact if_pos (by omega)]
      exact t2 i bs h
    refine ⟨?_, ?_, fun w hw => ?_, t1, t3, ?_, ?_, ?_, fun q hq => ?_, ⟨?_, ?_, ?_, ?_⟩, st9_priv hts, i1a, d1a, d2a, D1a, D2a, t1a, t2a, ⟨?_, ?_, ?_⟩, ?_, ?_, ?_⟩
    · exact vx_Zqof (hl _ (by simp [st9_sl, Bundle.tN, Bundle.steD, Bundle.listD])) (hl _ (by simp [st9_sl, Bundle.tN, Bundle.steD, Bundle.listD])) (hv _ (by simp [st9_st, Bundle.tN, Bundle.steD, Bundle.listD])) hA
    · exact vx_Zqof (hl _ (by simp [st9_sl, Bundle.tN, Bundle.steD, Bundle.listD])) (hl _ (by simp [st9_sl, Bundle.tN, Bundle.steD, Bundle.listD])) (hv _ (by simp [st9_st, Bundle.tN, Bundle.steD, Bundle.listD])) hA
    · have : ∀ w ∈ lw_nk, w.onTables = true := by decide +kernel
      exact va_Nw.of (this w hw) (hts w (st9_nk w hw))
    · exact va_AO.of (hl (.arrayOver (.object "MirageSurvey$Flat")) (by simp [st9_sl]))
    · exact va_Zof (hl _ (by simp [st9_sl])) (hl _ (by simp [st9_sl])) (va_eqt (hv (.eq (.static "java/lang/String" "COMPACT_STRINGS" "Z") (.int 1)) (by simp [st9_st]))) hA
    · exact va_Zqof (hl _ (by simp [st9_sl])) (hl _ (by simp [st9_sl])) (hv _ (by simp [st9_st])) hA
    · exact va_Nc.of (hf _ (st9_nc _ (List.mem_map.mpr ⟨q, hq, rfl⟩)))
    · show va_X (G 1000) (G 1001) (fun k => Int32.ofNat (G (1002 + k))) s s.heap
      rw [gb, gl]
      obtain ⟨scr, h1, h2, h3, h4, h5⟩ := hX
      exact ⟨scr, h1, h2, h3, h4, fun j hj => by rw [h5 j hj]; show some (Value.int (xs j)) = some (Value.int (Int32.ofNat (G (1002 + j)))); rw [gx j]⟩
    · show G 1000 < _; rw [gb]; exact hbl
    · show ¬ s.heap.size ≤ G 1000; rw [gb]; exact Nat.not_le.mpr hbl
    · show G 1001 ≤ 260; rw [gl]; exact hL
    · exact Nat.not_le.mpr (tb_st t1a).1
    · exact Nat.not_le.mpr (tb_st t1a).2
    · exact Nat.not_le.mpr (tb_st t2a).2
    · exact (tb_st t1a).1
    · exact (tb_st t1a).2
    · exact (tb_st t2a).2
