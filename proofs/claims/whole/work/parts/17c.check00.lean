theorem ck_D_init : mchk k_D_init 147 117 146 0 [0, 148, 0, 151, 0, 0, 463, 0, 168, 0, 0, 464, 0, 168, 0, 0, 465, 0, 0, 181, 466, 0, 181, 0, 0, 467, 0, 198, 0, 200, 468, 0, 198, 0, 200, 469, 0, 214, 0, 216, 470, 0, 242, 0, 0, 471, 0, 258, 0, 0, 472, 0, 280, 0, 0, 464, 282, 473, 0, 340, 0, 0, 464, 0, 473, 0, 468, 342, 474, 0, 373, 0, 0, 464, 0, 473, 0, 468, 375, 475, 0, 427, 0, 0, 464, 0, 473, 0, 468, 429, 476, 0, 0, 478, 0, 0, 0, 0, 0, 0, 466, 0, 181, 0, 0, 0, 0, 0, 0] = true := by decide +kernel
theorem ck_Tape_init : mchk k_Tape_init 155 118 154 0 [0, 156, 0, 0, 0, 157, 0] = true := by decide +kernel
theorem ck_Sea_init : mchk k_Sea_init 172 119 171 0 [0, 173, 0, 0, 0, 174, 0, 0, 0, 175, 0] = true := by decide +kernel
theorem ck_Rule_init : mchk k_Rule_init 186 120 185 0 [0, 187, 0, 0, 0, 188, 0, 0, 0, 189, 0] = true := by decide +kernel
theorem ck_State_init : mchk k_State_init 202 121 201 0 [0, 203, 0, 0, 0, 210, 0, 210, 0, 0, 0, 204, 0] = true := by decide +kernel
theorem ck_Past_init : mchk k_Past_init 218 123 217 0 [0, 219, 0, 0, 220, 223, 0, 0, 0, 224, 0, 0, 0, 0, 0, 0, 223, 0, 220, 0, 222, 0, 0, 0, 0] = true := by decide +kernel
theorem ck_Weather_init : mchk k_Weather_init 246 124 245 0 [0, 247, 0] = true := by decide +kernel
theorem ck_Trade_init : mchk k_Trade_init 262 125 261 0 [0, 263, 0, 0, 0, 264, 0, 0, 0, 265, 0, 0, 0, 266, 0, 0, 0, 267, 0] = true := by decide +kernel
theorem ck_Course_init : mchk k_Course_init 284 126 283 0 [0, 285, 0, 286, 0, 0, 289, 0, 0, 0, 290, 0, 0, 0, 291, 0, 0, 0, 292, 0, 0, 0, 293, 0, 0, 0, 294, 0, 0, 0, 295, 0, 0, 0, 296, 0, 0, 0, 297, 0, 0, 0, 298, 0, 0, 300, 0, 0, 288, 0] = true := by decide +kernel
theorem ck_Forecast_init : mchk k_Forecast_init 344 127 343 0 [0, 345, 0, 346, 0, 347, 351, 0, 0, 0, 352, 0, 0, 0, 353, 0, 0, 0, 354, 0, 0, 348, 0, 0, 349, 0, 0, 350, 0] = true := by decide +kernel
theorem ck_Deals_init : mchk k_Deals_init 377 128 376 0 [0, 378, 0, 379, 0, 380, 384, 0, 0, 0, 385, 0, 0, 0, 386, 0, 0, 0, 387, 0, 0, 381, 0, 0, 382, 0, 0, 383, 0] = true := by decide +kernel
theorem ck_Charts_init : mchk k_Charts_init 431 129 430 0 [0, 432, 0, 433, 0, 434, 438, 0, 0, 0, 439, 0, 0, 0, 440, 0, 0, 0, 441, 0, 0, 0, 442, 0, 0, 435, 0, 0, 436, 0, 0, 437, 0] = true := by decide +kernel
theorem ck_D_feed : mchk k_D_feed 518 117 516 517 [0, 519, 0, 519, 0, 0, 519, 0, 0, 519, 0, 0, 519, 0, 0, 0, 463, 522, 0, 0, 0, 0, 0, 0, 0, 463, 0, 526, 0, 463, 0, 526, 0, 463, 0, 526, 0, 463, 0, 526, 0, 463, 0, 526, 0, 463, 522, 0] = true := by decide +kernel
theorem ck_D_bytesIn : mchk k_D_bytesIn 521 117 520 0 [0, 0, 0, 0, 0, 0, 0, 0, 0, 0, 0, 0, 0, 0, 0, 0, 0] = true := by decide +kernel
theorem ck_Tape_length : mchk k_Tape_length 525 118 523 524 [0, 158, 0] = true := by decide +kernel
theorem ck_Tape_add : mchk k_Tape_add 529 118 527 528 [0, 0, 0, 0, 0, 0, 0, 0, 0, 0, 0, 0, 0, 158, 0, 0, 0, 157, 0, 158, 0, 0, 0, 0, 158, 0, 0, 158, 0, 0, 0] = true := by decide +kernel
theorem ck_D_end : mchk k_D_end 533 117 531 532 [0, 0, 0, 463, 522, 534, 0, 0, 0, 0, 463, 0, 537, 0, 0] = true := by decide +kernel
theorem ck_D_isWithin : mchk k_D_isWithin 536 117 535 0 [0, 0, 0, 0, 0, 0, 0, 0, 0, 0] = true := by decide +kernel
theorem ck_Tape_cut : mchk k_Tape_cut 540 118 538 539 [0, 0, 158, 0] = true := by decide +kernel
theorem ck_D_fault : mchk k_D_fault 544 117 542 543 [0, 0, 0, 465, 0, 463, 545, 0, 0, 0, 0, 463, 750, 0, 0, 0, 0, 0, 467, 0, 463, 754, 0, 0, 0, 0, 463, 750, 0, 0, 0] = true := by decide +kernel
theorem ck_Sea_read : mchk k_Sea_read 548 119 546 547 [0, 175, 0, 549, 0, 0, 0, 552, 0, 561, 0, 0, 0, 0, 0, 0, 0, 565, 0, 0, 0, 0, 714, 0, 0, 718, 0, 0, 0, 746, 0, 0, 0, 0, 0, 0, 0] = true := by decide +kernel
theorem ck_Sea_fillRow : mchk k_Sea_fillRow 555 119 554 0 [556, 0, 0, 0, 0, 174, 0, 0, 0, 0, 558, 0] = true := by decide +kernel
theorem ck_Tape_rewind : mchk k_Tape_rewind 564 118 562 563 [0, 0, 159, 0] = true := by decide +kernel
theorem ck_Sea_readClause : mchk k_Sea_readClause 568 119 567 1 [0, 0, 570, 0, 574, 0, 0, 0, 0, 0, 0, 0, 175, 0, 0, 660, 0, 0, 0, 0, 0, 0, 662, 666, 0, 0, 0, 175, 0, 0, 0, 0, 0, 175, 0, 0, 0, 0, 0, 0, 0, 0, 0, 552, 0, 0, 0, 0, 0, 0, 0, 0, 0, 570, 668, 0, 0, 0, 0, 0, 0, 0, 0, 0, 0, 0, 0, 0, 0, 0, 0, 0, 0, 0, 0, 0, 662, 0, 0, 0, 0, 0, 0, 0, 0, 0, 0, 0, 0, 692, 0, 0, 0, 0, 0, 0, 0] = true := by decide +kernel
theorem ck_Tape_look : mchk k_Tape_look 573 118 571 572 [0, 159, 0, 158, 0, 0, 157, 0, 159, 0, 0, 0, 0, 0, 159, 0, 0, 159, 0, 0, 159, 0, 158, 0, 0, 157, 0, 159, 0, 0, 0, 0] = true := by decide +kernel
theorem ck_Tape_pass : mchk k_Tape_pass 665 118 663 664 [0, 0, 159, 0, 0, 159, 0] = true := by decide +kernel
theorem ck_Sea_itemOf : mchk k_Sea_itemOf 670 119 669 0 [0, 0, 0, 0, 0, 0, 0, 0, 0, 0, 0, 672, 0, 0, 0, 0, 0, 0, 0, 0] = true := by decide +kernel
theorem ck_Sea_readItem : mchk k_Sea_readItem 695 119 694 2 [0, 0, 696, 0, 0, 0, 0, 0, 0, 0, 705, 0, 0, 0, 0, 707, 0, 0, 0, 0, 709, 0, 0, 0, 174, 0, 0, 0, 0, 0] = true := by decide +kernel
theorem ck_Tape_readNumber : mchk k_Tape_readNumber 699 118 697 698 [0, 700, 0, 0, 701, 0, 0, 0, 0, 0, 0, 0, 0, 0, 0, 0, 701, 0, 0, 0, 0, 0, 157, 0, 159, 0, 0, 0, 0, 0, 0, 0, 159, 0, 0, 159, 0, 0, 0, 701, 0, 0, 0, 0, 0] = true := by decide +kernel
theorem ck_Tape_isDigitHere : mchk k_Tape_isDigitHere 704 118 703 3 [0, 159, 0, 158, 0, 0, 157, 0, 159, 0, 0, 0, 0, 157, 0, 159, 0, 0, 0, 0, 0, 0, 0] = true := by decide +kernel
theorem ck_Tape_stepBack : mchk k_Tape_stepBack 712 118 710 711 [0, 0, 0, 159, 0, 0, 713, 159, 0] = true := by decide +kernel
theorem ck_Tape_isOver : mchk k_Tape_isOver 717 118 715 716 [0, 700, 0, 0, 0, 0, 0] = true := by decide +kernel
theorem ck_Sea_isWhole : mchk k_Sea_isWhole 721 119 720 4 [0, 722, 0, 0, 0, 0, 0, 0, 0, 0, 0, 0, 726, 0, 0, 0, 0, 0, 0, 0, 730, 0, 0, 0, 730, 734, 0, 0, 0, 0, 0, 0, 0, 0, 0, 0, 0, 738, 0, 0, 0, 0, 0, 0, 0, 742, 0, 0, 0, 742, 734, 0, 0, 0, 0, 0, 0, 0, 0, 0] = true := by decide +kernel
theorem ck_Sea_isles : mchk k_Sea_isles 725 119 723 724 [0, 175, 0, 0, 0] = true := by decide +kernel
theorem ck_Sea_ties : mchk k_Sea_ties 729 119 727 728 [0, 175, 0, 0, 0] = true := by decide +kernel
theorem ck_Sea_ofTie : mchk k_Sea_ofTie 733 119 731 732 [0, 174, 666, 0, 0, 0, 0, 0, 0, 0, 0, 0, 0] = true := by decide +kernel
theorem ck_Sea_areToldTwo : mchk k_Sea_areToldTwo 737 119 736 5 [0, 0, 0, 0, 0, 722, 0, 0, 0, 722, 0, 0, 0, 0, 0] = true := by decide +kernel
theorem ck_Sea_bridges : mchk k_Sea_bridges 741 119 739 740 [0, 175, 0, 0, 0] = true := by decide +kernel
theorem ck_Sea_ofBridge : mchk k_Sea_ofBridge 745 119 743 744 [0, 174, 666, 0, 0, 0, 0, 0, 0, 0, 0, 0, 0] = true := by decide +kernel
theorem ck_Tape_takes : mchk k_Tape_takes 749 118 747 748 [0, 700, 0, 0, 0, 0, 0, 0, 159, 0, 0, 159, 0, 0] = true := by decide +kernel
theorem ck_Tape_place : mchk k_Tape_place 753 118 751 752 [0, 159, 0] = true := by decide +kernel
theorem ck_Rule_read : mchk k_Rule_read 757 120 755 756 [0, 0, 190, 0, 758, 0, 0, 0, 0, 0, 0, 0, 759, 0, 0, 0, 0, 0, 782, 0, 812, 0, 0, 0, 0, 0, 763, 0, 0, 0, 0, 0, 0, 0] = true := by decide +kernel
theorem ck_Rule_readClause : mchk k_Rule_readClause 762 120 761 6 [0, 0, 763, 0, 0, 0, 763, 0, 0, 0, 0, 764, 0, 0, 0, 0, 0, 0, 0, 0, 0, 0, 0, 0, 0, 0, 0, 0, 765, 0, 0, 0, 0, 0, 0, 764, 793, 0, 0, 0, 0, 0, 0, 0, 0, 0, 0, 0, 796, 0, 0, 0, 763, 0, 0, 0, 0, 0, 782, 0, 0, 0, 765, 0] = true := by decide +kernel
theorem ck_Rule_readSum : mchk k_Rule_readSum 768 120 767 7 [0, 0, 0, 769, 0, 0, 0, 0, 0, 0, 0, 0, 0, 764, 0, 0, 0, 0, 0, 0, 0, 0, 0, 0, 790, 0, 0, 0, 769, 0, 0, 0, 0, 0, 782, 0, 0, 0, 0] = true := by decide +kernel
theorem ck_Rule_readTerm : mchk k_Rule_readTerm 772 120 771 8 [0, 0, 0, 773, 0, 0, 0, 0, 0, 0, 0, 0, 0, 764, 0, 0, 0, 0, 0, 0, 0, 0, 0, 0, 790, 0, 0, 0, 773, 0, 0, 0, 0, 0, 782, 0, 0, 0, 0] = true := by decide +kernel
theorem ck_Rule_readAtom : mchk k_Rule_readAtom 776 120 775 9 [0, 777, 0, 0, 0, 781, 0, 0, 0, 0, 0, 0, 0, 0, 782, 0, 0, 0, 0, 0, 0, 0, 0, 764, 0, 0, 0, 0, 0, 0, 0, 786, 0, 0, 0, 0, 792, 0, 0, 0, 0, 0, 0, 790, 0, 0, 782, 0, 0] = true := by decide +kernel
theorem ck_Tape_isAtDigit : mchk k_Tape_isAtDigit 780 118 778 779 [0, 700, 0, 0, 701, 0] = true := by decide +kernel
theorem ck_Rule_put : mchk k_Rule_put 785 120 784 10 [0, 190, 0, 188, 0, 0, 0, 188, 0, 190, 0, 0, 0, 0, 190, 0, 0, 190, 0] = true := by decide +kernel
theorem ck_Rule_readBracket : mchk k_Rule_readBracket 789 120 788 11 [0, 0, 0, 0, 0, 0, 790, 0, 0, 0, 0, 0, 765, 0, 0, 0, 763, 0, 0, 0, 0, 0] = true := by decide +kernel
theorem ck_Rule_isComparison : mchk k_Rule_isComparison 795 120 794 0 [0, 0, 0, 0, 0, 0, 0, 0, 0, 0, 0, 0, 0] = true := by decide +kernel
theorem ck_Rule_readCondition : mchk k_Rule_readCondition 799 120 798 12 [0, 0, 0, 0, 800, 0, 0, 0, 0, 0, 0, 0, 0, 0, 0, 763, 0, 0, 0, 0, 0, 800, 0, 0, 0, 0, 0, 782, 0, 0, 0, 0] = true := by decide +kernel
theorem ck_Rule_readTruth : mchk k_Rule_readTruth 803 120 802 13 [0, 0, 0, 0, 804, 0, 0, 0, 0, 0, 0, 0, 0, 0, 0, 763, 0, 0, 0, 0, 0, 804, 0, 0, 0, 0, 0, 782, 0, 0, 0, 0] = true := by decide +kernel
theorem ck_Rule_readUnit : mchk k_Rule_readUnit 807 120 806 14 [0, 764, 0, 0, 0, 0, 0, 0, 0, 0, 0, 0, 0, 0, 0, 808, 0, 0, 0, 0, 0, 0, 765, 0, 0, 0, 0, 764, 0, 0, 793, 0, 0, 0, 0, 790, 0, 0, 0, 765, 0, 0, 0, 0, 0, 782, 0, 0] = true := by decide +kernel
theorem ck_Rule_readNested : mchk k_Rule_readNested 811 120 810 15 [0, 0, 0, 0, 0, 0, 790, 0, 0, 0, 0, 0, 0, 0, 0, 0, 796, 0, 0, 0, 763, 0, 0, 0, 0, 0, 0, 0, 0, 0, 0, 0, 804, 0, 0, 0, 0, 0, 782, 0, 0] = true := by decide +kernel
theorem ck_D_text : mchk k_D_text 817 117 815 816 [0, 0, 0, 818, 0, 0, 0, 0, 0, 851, 0, 0, 0] = true := by decide +kernel
theorem ck_D_beginSea : mchk k_D_beginSea 821 117 820 16 [0, 465, 0, 463, 545, 0, 0, 0, 0, 464, 0, 465, 822, 0, 468, 0, 464, 826, 0, 470, 838, 0, 476, 846, 0, 0, 479, 0, 463, 0, 537, 0, 464, 850, 0] = true := by decide +kernel
theorem ck_Sea_copy : mchk k_Sea_copy 825 119 823 824 [0, 174, 0, 0, 174, 0, 0, 174, 0, 558, 0, 175, 0, 0, 175, 0, 0, 175, 0, 558, 0] = true := by decide +kernel
theorem ck_State_begin : mchk k_State_begin 829 121 827 828 [0, 210, 0, 830, 0, 0, 0, 0, 0, 0, 0, 831, 0, 0, 0, 0, 0, 0, 210, 0, 0, 0, 0, 0, 0, 0, 0, 0, 0, 0, 0, 210, 0, 0, 0, 0, 0, 0, 832, 0, 0, 210, 0, 0, 0, 0, 0, 0, 832, 0, 0, 210, 0, 0, 0, 0, 0, 0, 832, 0, 0, 210, 0, 0, 0, 0, 0, 0, 832, 0, 0, 0, 0, 0, 0, 0, 836, 0, 0, 210, 0, 0, 0, 0, 0, 0, 837, 0, 0, 0, 0, 210, 0, 0, 0, 204, 0] = true := by decide +kernel
theorem ck_Sea_ofIsle : mchk k_Sea_ofIsle 835 119 833 834 [0, 174, 666, 0, 0, 0, 0, 0, 0, 0, 0, 0, 0] = true := by decide +kernel
theorem ck_Past_clear : mchk k_Past_clear 841 123 839 840 [0, 842, 0, 0, 227, 0] = true := by decide +kernel
theorem ck_Past_forgetStates : mchk k_Past_forgetStates 845 123 843 844 [0, 0, 225, 0] = true := by decide +kernel
theorem ck_Charts_clear : mchk k_Charts_clear 849 129 847 848 [0, 0, 443, 0] = true := by decide +kernel
theorem ck_D_addRule : mchk k_D_addRule 854 117 853 17 [0, 477, 0, 0, 534, 0, 0, 467, 0, 463, 754, 0, 0, 0, 0, 466, 0, 477, 0, 0, 467, 855, 0, 463, 0, 537, 0, 0, 477, 0, 0, 477, 0, 477, 0, 0, 0] = true := by decide +kernel
theorem ck_Rule_copy : mchk k_Rule_copy 858 120 856 857 [0, 188, 0, 0, 188, 0, 0, 188, 0, 859, 0, 0, 190, 190, 0] = true := by decide +kernel
theorem ck_D_tie : mchk k_D_tie 863 117 861 862 [0, 0, 864, 0, 869, 0, 0, 0, 0, 464, 0, 0, 870, 0, 0, 464, 0, 0, 870, 0, 0, 468, 0, 871, 0, 0, 464, 0, 0, 870, 0, 0, 473, 0, 468, 0, 875, 0, 869, 0] = true := by decide +kernel
theorem ck_D_isTie : mchk k_D_isTie 867 117 866 18 [0, 0, 0, 464, 868, 0, 0, 534, 0] = true := by decide +kernel
theorem ck_State_kindOf : mchk k_State_kindOf 874 121 872 873 [0, 210, 0, 0, 0, 0, 0] = true := by decide +kernel
theorem ck_Course_pullOfTold : mchk k_Course_pullOfTold 878 126 876 877 [0, 0, 0, 288, 0, 0, 879, 0, 288, 0, 0, 879, 0, 0, 880, 0, 288, 0, 0, 879, 881, 0] = true := by decide +kernel
theorem ck_Course_pullOf : mchk k_Course_pullOf 884 126 883 19 [0, 0, 0, 885, 0, 0, 0, 0, 0, 0, 299, 0, 0, 0, 0, 0, 0, 0, 0, 0, 290, 0, 0, 0, 0, 290, 0, 0, 0, 0, 290, 0, 0, 0, 0, 290, 0, 0, 0, 889, 0, 0, 290, 0, 0, 0, 889, 0, 0, 290, 0, 0, 893, 0, 0, 299, 0, 290, 897, 0, 0, 0] = true := by decide +kernel
theorem ck_State_apart : mchk k_State_apart 888 121 886 887 [0, 210, 0, 0, 210, 0, 0, 0, 0, 0, 0, 0, 210, 0, 0, 210, 0, 0, 0, 0, 0, 0, 0, 0, 0, 210, 0, 0, 210, 0, 0, 0, 0, 0, 0, 0, 210, 0, 0, 210, 0, 0, 0, 0, 0, 0, 0, 0, 0, 0, 0, 0, 0, 0, 0, 0, 0, 0, 0, 0, 0, 0] = true := by decide +kernel
