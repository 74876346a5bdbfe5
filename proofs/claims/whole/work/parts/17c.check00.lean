theorem ck_D_init : mchk k_D_init 148 118 147 0 [0, 149, 0, 152, 0, 0, 464, 0, 169, 0, 0, 465, 0, 169, 0, 0, 466, 0, 0, 182, 467, 0, 182, 0, 0, 468, 0, 199, 0, 201, 469, 0, 199, 0, 201, 470, 0, 215, 0, 217, 471, 0, 243, 0, 0, 472, 0, 259, 0, 0, 473, 0, 281, 0, 0, 465, 283, 474, 0, 341, 0, 0, 465, 0, 474, 0, 469, 343, 475, 0, 374, 0, 0, 465, 0, 474, 0, 469, 376, 476, 0, 428, 0, 0, 465, 0, 474, 0, 469, 430, 477, 0, 0, 479, 0, 0, 0, 0, 0, 0, 467, 0, 182, 0, 0, 0, 0, 0, 0] = true := by decide +kernel
theorem ck_Tape_init : mchk k_Tape_init 156 119 155 0 [0, 157, 0, 0, 0, 158, 0] = true := by decide +kernel
theorem ck_Sea_init : mchk k_Sea_init 173 120 172 0 [0, 174, 0, 0, 0, 175, 0, 0, 0, 176, 0] = true := by decide +kernel
theorem ck_Rule_init : mchk k_Rule_init 187 121 186 0 [0, 188, 0, 0, 0, 189, 0, 0, 0, 190, 0] = true := by decide +kernel
theorem ck_State_init : mchk k_State_init 203 122 202 0 [0, 204, 0, 0, 0, 211, 0, 211, 0, 0, 0, 205, 0] = true := by decide +kernel
theorem ck_Past_init : mchk k_Past_init 219 124 218 0 [0, 220, 0, 0, 221, 224, 0, 0, 0, 225, 0, 0, 0, 0, 0, 0, 224, 0, 221, 0, 223, 0, 0, 0, 0] = true := by decide +kernel
theorem ck_Weather_init : mchk k_Weather_init 247 125 246 0 [0, 248, 0] = true := by decide +kernel
theorem ck_Trade_init : mchk k_Trade_init 263 126 262 0 [0, 264, 0, 0, 0, 265, 0, 0, 0, 266, 0, 0, 0, 267, 0, 0, 0, 268, 0] = true := by decide +kernel
theorem ck_Course_init : mchk k_Course_init 285 127 284 0 [0, 286, 0, 287, 0, 0, 290, 0, 0, 0, 291, 0, 0, 0, 292, 0, 0, 0, 293, 0, 0, 0, 294, 0, 0, 0, 295, 0, 0, 0, 296, 0, 0, 0, 297, 0, 0, 0, 298, 0, 0, 0, 299, 0, 0, 301, 0, 0, 289, 0] = true := by decide +kernel
theorem ck_Forecast_init : mchk k_Forecast_init 345 128 344 0 [0, 346, 0, 347, 0, 348, 352, 0, 0, 0, 353, 0, 0, 0, 354, 0, 0, 0, 355, 0, 0, 349, 0, 0, 350, 0, 0, 351, 0] = true := by decide +kernel
theorem ck_Deals_init : mchk k_Deals_init 378 129 377 0 [0, 379, 0, 380, 0, 381, 385, 0, 0, 0, 386, 0, 0, 0, 387, 0, 0, 0, 388, 0, 0, 382, 0, 0, 383, 0, 0, 384, 0] = true := by decide +kernel
theorem ck_Charts_init : mchk k_Charts_init 432 130 431 0 [0, 433, 0, 434, 0, 435, 439, 0, 0, 0, 440, 0, 0, 0, 441, 0, 0, 0, 442, 0, 0, 0, 443, 0, 0, 436, 0, 0, 437, 0, 0, 438, 0] = true := by decide +kernel
theorem ck_D_feed : mchk k_D_feed 519 118 517 518 [0, 520, 0, 520, 0, 0, 520, 0, 0, 520, 0, 0, 520, 0, 0, 0, 464, 523, 0, 0, 0, 0, 0, 0, 0, 464, 0, 527, 0, 464, 0, 527, 0, 464, 0, 527, 0, 464, 0, 527, 0, 464, 0, 527, 0, 464, 523, 0] = true := by decide +kernel
theorem ck_D_bytesIn : mchk k_D_bytesIn 522 118 521 0 [0, 0, 0, 0, 0, 0, 0, 0, 0, 0, 0, 0, 0, 0, 0, 0, 0] = true := by decide +kernel
theorem ck_Tape_length : mchk k_Tape_length 526 119 524 525 [0, 159, 0] = true := by decide +kernel
theorem ck_Tape_add : mchk k_Tape_add 530 119 528 529 [0, 0, 0, 0, 0, 0, 0, 0, 0, 0, 0, 0, 0, 159, 0, 0, 0, 158, 0, 159, 0, 0, 0, 0, 159, 0, 0, 159, 0, 0, 0] = true := by decide +kernel
theorem ck_D_end : mchk k_D_end 534 118 532 533 [0, 0, 0, 464, 523, 535, 0, 0, 0, 0, 464, 0, 538, 0, 0] = true := by decide +kernel
theorem ck_D_isWithin : mchk k_D_isWithin 537 118 536 0 [0, 0, 0, 0, 0, 0, 0, 0, 0, 0] = true := by decide +kernel
theorem ck_Tape_cut : mchk k_Tape_cut 541 119 539 540 [0, 0, 159, 0] = true := by decide +kernel
theorem ck_D_fault : mchk k_D_fault 545 118 543 544 [0, 0, 0, 466, 0, 464, 546, 0, 0, 0, 0, 464, 751, 0, 0, 0, 0, 0, 468, 0, 464, 755, 0, 0, 0, 0, 464, 751, 0, 0, 0] = true := by decide +kernel
theorem ck_Sea_read : mchk k_Sea_read 549 120 547 548 [0, 176, 0, 550, 0, 0, 0, 553, 0, 562, 0, 0, 0, 0, 0, 0, 0, 566, 0, 0, 0, 0, 715, 0, 0, 719, 0, 0, 0, 747, 0, 0, 0, 0, 0, 0, 0] = true := by decide +kernel
theorem ck_Sea_fillRow : mchk k_Sea_fillRow 556 120 555 0 [557, 0, 0, 0, 0, 175, 0, 0, 0, 0, 559, 0] = true := by decide +kernel
theorem ck_Tape_rewind : mchk k_Tape_rewind 565 119 563 564 [0, 0, 160, 0] = true := by decide +kernel
theorem ck_Sea_readClause : mchk k_Sea_readClause 569 120 568 1 [0, 0, 571, 0, 575, 0, 0, 0, 0, 0, 0, 0, 176, 0, 0, 661, 0, 0, 0, 0, 0, 0, 663, 667, 0, 0, 0, 176, 0, 0, 0, 0, 0, 176, 0, 0, 0, 0, 0, 0, 0, 0, 0, 553, 0, 0, 0, 0, 0, 0, 0, 0, 0, 571, 669, 0, 0, 0, 0, 0, 0, 0, 0, 0, 0, 0, 0, 0, 0, 0, 0, 0, 0, 0, 0, 0, 663, 0, 0, 0, 0, 0, 0, 0, 0, 0, 0, 0, 0, 693, 0, 0, 0, 0, 0, 0, 0] = true := by decide +kernel
theorem ck_Tape_look : mchk k_Tape_look 574 119 572 573 [0, 160, 0, 159, 0, 0, 158, 0, 160, 0, 0, 0, 0, 0, 160, 0, 0, 160, 0, 0, 160, 0, 159, 0, 0, 158, 0, 160, 0, 0, 0, 0] = true := by decide +kernel
theorem ck_Tape_pass : mchk k_Tape_pass 666 119 664 665 [0, 0, 160, 0, 0, 160, 0] = true := by decide +kernel
theorem ck_Sea_itemOf : mchk k_Sea_itemOf 671 120 670 0 [0, 0, 0, 0, 0, 0, 0, 0, 0, 0, 0, 673, 0, 0, 0, 0, 0, 0, 0, 0] = true := by decide +kernel
theorem ck_Sea_readItem : mchk k_Sea_readItem 696 120 695 2 [0, 0, 697, 0, 0, 0, 0, 0, 0, 0, 706, 0, 0, 0, 0, 708, 0, 0, 0, 0, 710, 0, 0, 0, 175, 0, 0, 0, 0, 0] = true := by decide +kernel
theorem ck_Tape_readNumber : mchk k_Tape_readNumber 700 119 698 699 [0, 701, 0, 0, 702, 0, 0, 0, 0, 0, 0, 0, 0, 0, 0, 0, 702, 0, 0, 0, 0, 0, 158, 0, 160, 0, 0, 0, 0, 0, 0, 0, 160, 0, 0, 160, 0, 0, 0, 702, 0, 0, 0, 0, 0] = true := by decide +kernel
theorem ck_Tape_isDigitHere : mchk k_Tape_isDigitHere 705 119 704 3 [0, 160, 0, 159, 0, 0, 158, 0, 160, 0, 0, 0, 0, 158, 0, 160, 0, 0, 0, 0, 0, 0, 0] = true := by decide +kernel
theorem ck_Tape_stepBack : mchk k_Tape_stepBack 713 119 711 712 [0, 0, 0, 160, 0, 0, 714, 160, 0] = true := by decide +kernel
theorem ck_Tape_isOver : mchk k_Tape_isOver 718 119 716 717 [0, 701, 0, 0, 0, 0, 0] = true := by decide +kernel
theorem ck_Sea_isWhole : mchk k_Sea_isWhole 722 120 721 4 [0, 723, 0, 0, 0, 0, 0, 0, 0, 0, 0, 0, 727, 0, 0, 0, 0, 0, 0, 0, 731, 0, 0, 0, 731, 735, 0, 0, 0, 0, 0, 0, 0, 0, 0, 0, 0, 739, 0, 0, 0, 0, 0, 0, 0, 743, 0, 0, 0, 743, 735, 0, 0, 0, 0, 0, 0, 0, 0, 0] = true := by decide +kernel
theorem ck_Sea_isles : mchk k_Sea_isles 726 120 724 725 [0, 176, 0, 0, 0] = true := by decide +kernel
theorem ck_Sea_ties : mchk k_Sea_ties 730 120 728 729 [0, 176, 0, 0, 0] = true := by decide +kernel
theorem ck_Sea_ofTie : mchk k_Sea_ofTie 734 120 732 733 [0, 175, 667, 0, 0, 0, 0, 0, 0, 0, 0, 0, 0] = true := by decide +kernel
theorem ck_Sea_areToldTwo : mchk k_Sea_areToldTwo 738 120 737 5 [0, 0, 0, 0, 0, 723, 0, 0, 0, 723, 0, 0, 0, 0, 0] = true := by decide +kernel
theorem ck_Sea_bridges : mchk k_Sea_bridges 742 120 740 741 [0, 176, 0, 0, 0] = true := by decide +kernel
theorem ck_Sea_ofBridge : mchk k_Sea_ofBridge 746 120 744 745 [0, 175, 667, 0, 0, 0, 0, 0, 0, 0, 0, 0, 0] = true := by decide +kernel
theorem ck_Tape_takes : mchk k_Tape_takes 750 119 748 749 [0, 701, 0, 0, 0, 0, 0, 0, 160, 0, 0, 160, 0, 0] = true := by decide +kernel
theorem ck_Tape_place : mchk k_Tape_place 754 119 752 753 [0, 160, 0] = true := by decide +kernel
theorem ck_Rule_read : mchk k_Rule_read 758 121 756 757 [0, 0, 191, 0, 759, 0, 0, 0, 0, 0, 0, 0, 760, 0, 0, 0, 0, 0, 783, 0, 813, 0, 0, 0, 0, 0, 764, 0, 0, 0, 0, 0, 0, 0] = true := by decide +kernel
theorem ck_Rule_readClause : mchk k_Rule_readClause 763 121 762 6 [0, 0, 764, 0, 0, 0, 764, 0, 0, 0, 0, 765, 0, 0, 0, 0, 0, 0, 0, 0, 0, 0, 0, 0, 0, 0, 0, 0, 766, 0, 0, 0, 0, 0, 0, 765, 794, 0, 0, 0, 0, 0, 0, 0, 0, 0, 0, 0, 797, 0, 0, 0, 764, 0, 0, 0, 0, 0, 783, 0, 0, 0, 766, 0] = true := by decide +kernel
theorem ck_Rule_readSum : mchk k_Rule_readSum 769 121 768 7 [0, 0, 0, 770, 0, 0, 0, 0, 0, 0, 0, 0, 0, 765, 0, 0, 0, 0, 0, 0, 0, 0, 0, 0, 791, 0, 0, 0, 770, 0, 0, 0, 0, 0, 783, 0, 0, 0, 0] = true := by decide +kernel
theorem ck_Rule_readTerm : mchk k_Rule_readTerm 773 121 772 8 [0, 0, 0, 774, 0, 0, 0, 0, 0, 0, 0, 0, 0, 765, 0, 0, 0, 0, 0, 0, 0, 0, 0, 0, 791, 0, 0, 0, 774, 0, 0, 0, 0, 0, 783, 0, 0, 0, 0] = true := by decide +kernel
theorem ck_Rule_readAtom : mchk k_Rule_readAtom 777 121 776 9 [0, 778, 0, 0, 0, 782, 0, 0, 0, 0, 0, 0, 0, 0, 783, 0, 0, 0, 0, 0, 0, 0, 0, 765, 0, 0, 0, 0, 0, 0, 0, 787, 0, 0, 0, 0, 793, 0, 0, 0, 0, 0, 0, 791, 0, 0, 783, 0, 0] = true := by decide +kernel
theorem ck_Tape_isAtDigit : mchk k_Tape_isAtDigit 781 119 779 780 [0, 701, 0, 0, 702, 0] = true := by decide +kernel
theorem ck_Rule_put : mchk k_Rule_put 786 121 785 10 [0, 191, 0, 189, 0, 0, 0, 189, 0, 191, 0, 0, 0, 0, 191, 0, 0, 191, 0] = true := by decide +kernel
theorem ck_Rule_readBracket : mchk k_Rule_readBracket 790 121 789 11 [0, 0, 0, 0, 0, 0, 791, 0, 0, 0, 0, 0, 766, 0, 0, 0, 764, 0, 0, 0, 0, 0] = true := by decide +kernel
theorem ck_Rule_isComparison : mchk k_Rule_isComparison 796 121 795 0 [0, 0, 0, 0, 0, 0, 0, 0, 0, 0, 0, 0, 0] = true := by decide +kernel
theorem ck_Rule_readCondition : mchk k_Rule_readCondition 800 121 799 12 [0, 0, 0, 0, 801, 0, 0, 0, 0, 0, 0, 0, 0, 0, 0, 764, 0, 0, 0, 0, 0, 801, 0, 0, 0, 0, 0, 783, 0, 0, 0, 0] = true := by decide +kernel
theorem ck_Rule_readTruth : mchk k_Rule_readTruth 804 121 803 13 [0, 0, 0, 0, 805, 0, 0, 0, 0, 0, 0, 0, 0, 0, 0, 764, 0, 0, 0, 0, 0, 805, 0, 0, 0, 0, 0, 783, 0, 0, 0, 0] = true := by decide +kernel
theorem ck_Rule_readUnit : mchk k_Rule_readUnit 808 121 807 14 [0, 765, 0, 0, 0, 0, 0, 0, 0, 0, 0, 0, 0, 0, 0, 809, 0, 0, 0, 0, 0, 0, 766, 0, 0, 0, 0, 765, 0, 0, 794, 0, 0, 0, 0, 791, 0, 0, 0, 766, 0, 0, 0, 0, 0, 783, 0, 0] = true := by decide +kernel
theorem ck_Rule_readNested : mchk k_Rule_readNested 812 121 811 15 [0, 0, 0, 0, 0, 0, 791, 0, 0, 0, 0, 0, 0, 0, 0, 0, 797, 0, 0, 0, 764, 0, 0, 0, 0, 0, 0, 0, 0, 0, 0, 0, 805, 0, 0, 0, 0, 0, 783, 0, 0] = true := by decide +kernel
theorem ck_D_text : mchk k_D_text 818 118 816 817 [0, 0, 0, 819, 0, 0, 0, 0, 0, 852, 0, 0, 0] = true := by decide +kernel
theorem ck_D_beginSea : mchk k_D_beginSea 822 118 821 16 [0, 466, 0, 464, 546, 0, 0, 0, 0, 465, 0, 466, 823, 0, 469, 0, 465, 827, 0, 471, 839, 0, 477, 847, 0, 0, 480, 0, 464, 0, 538, 0, 465, 851, 0] = true := by decide +kernel
theorem ck_Sea_copy : mchk k_Sea_copy 826 120 824 825 [0, 175, 0, 0, 175, 0, 0, 175, 0, 559, 0, 176, 0, 0, 176, 0, 0, 176, 0, 559, 0] = true := by decide +kernel
theorem ck_State_begin : mchk k_State_begin 830 122 828 829 [0, 211, 0, 831, 0, 0, 0, 0, 0, 0, 0, 832, 0, 0, 0, 0, 0, 0, 211, 0, 0, 0, 0, 0, 0, 0, 0, 0, 0, 0, 0, 211, 0, 0, 0, 0, 0, 0, 833, 0, 0, 211, 0, 0, 0, 0, 0, 0, 833, 0, 0, 211, 0, 0, 0, 0, 0, 0, 833, 0, 0, 211, 0, 0, 0, 0, 0, 0, 833, 0, 0, 0, 0, 0, 0, 0, 837, 0, 0, 211, 0, 0, 0, 0, 0, 0, 838, 0, 0, 0, 0, 211, 0, 0, 0, 205, 0] = true := by decide +kernel
theorem ck_Sea_ofIsle : mchk k_Sea_ofIsle 836 120 834 835 [0, 175, 667, 0, 0, 0, 0, 0, 0, 0, 0, 0, 0] = true := by decide +kernel
theorem ck_Past_clear : mchk k_Past_clear 842 124 840 841 [0, 843, 0, 0, 228, 0] = true := by decide +kernel
theorem ck_Past_forgetStates : mchk k_Past_forgetStates 846 124 844 845 [0, 0, 226, 0] = true := by decide +kernel
theorem ck_Charts_clear : mchk k_Charts_clear 850 130 848 849 [0, 0, 444, 0] = true := by decide +kernel
theorem ck_D_addRule : mchk k_D_addRule 855 118 854 17 [0, 478, 0, 0, 535, 0, 0, 468, 0, 464, 755, 0, 0, 0, 0, 467, 0, 478, 0, 0, 468, 856, 0, 464, 0, 538, 0, 0, 478, 0, 0, 478, 0, 478, 0, 0, 0] = true := by decide +kernel
theorem ck_Rule_copy : mchk k_Rule_copy 859 121 857 858 [0, 189, 0, 0, 189, 0, 0, 189, 0, 860, 0, 0, 191, 191, 0] = true := by decide +kernel
theorem ck_D_tie : mchk k_D_tie 864 118 862 863 [0, 0, 865, 0, 870, 0, 0, 0, 0, 465, 0, 0, 871, 0, 0, 465, 0, 0, 871, 0, 0, 469, 0, 872, 0, 0, 465, 0, 0, 871, 0, 0, 474, 0, 469, 0, 876, 0, 870, 0] = true := by decide +kernel
theorem ck_D_isTie : mchk k_D_isTie 868 118 867 18 [0, 0, 0, 465, 869, 0, 0, 535, 0] = true := by decide +kernel
theorem ck_State_kindOf : mchk k_State_kindOf 875 122 873 874 [0, 211, 0, 0, 0, 0, 0] = true := by decide +kernel
theorem ck_Course_pullOfTold : mchk k_Course_pullOfTold 879 127 877 878 [0, 0, 0, 289, 0, 0, 880, 0, 289, 0, 0, 880, 0, 0, 881, 0, 289, 0, 0, 880, 882, 0] = true := by decide +kernel
theorem ck_Course_pullOf : mchk k_Course_pullOf 885 127 884 19 [0, 0, 0, 886, 0, 0, 0, 0, 0, 0, 300, 0, 0, 0, 0, 0, 0, 0, 0, 0, 291, 0, 0, 0, 0, 291, 0, 0, 0, 0, 291, 0, 0, 0, 0, 291, 0, 0, 0, 890, 0, 0, 291, 0, 0, 0, 890, 0, 0, 291, 0, 0, 894, 0, 0, 300, 0, 291, 898, 0, 0, 0] = true := by decide +kernel
theorem ck_State_apart : mchk k_State_apart 889 122 887 888 [0, 211, 0, 0, 211, 0, 0, 0, 0, 0, 0, 0, 211, 0, 0, 211, 0, 0, 0, 0, 0, 0, 0, 0, 0, 211, 0, 0, 211, 0, 0, 0, 0, 0, 0, 0, 211, 0, 0, 211, 0, 0, 0, 0, 0, 0, 0, 0, 0, 0, 0, 0, 0, 0, 0, 0, 0, 0, 0, 0, 0, 0] = true := by decide +kernel
