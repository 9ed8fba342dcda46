section
theorem wn_1 : Cond.initialized RX8 ∈ gBIG := gm (List.mem_of_getElem? (i := 55) (by decide +kernel)) (by decide +kernel)
theorem wn_300 : Cond.methodLink RL 13 yX8_count ∈ gBIG := gm (List.mem_of_getElem? (i := 354) (by decide +kernel)) (by decide +kernel)
theorem wn_301 : Cond.instanceMethod yX8_count ∈ gBIG := gm (List.mem_of_getElem? (i := 355) (by decide +kernel)) (by decide +kernel)
theorem wn_302 : Cond.selects RX8 yX8_count yX8_count ∈ gBIG := gm (List.mem_of_getElem? (i := 356) (by decide +kernel)) (by decide +kernel)
theorem wn_303 : Cond.code yX8_count cX8_count 2 (some .int) ∈ gBIG := gm (List.mem_of_getElem? (i := 357) (by decide +kernel)) (by decide +kernel)
theorem wn_304 : Cond.methodLink RL 18 yX8_set ∈ gBIG := gm (List.mem_of_getElem? (i := 358) (by decide +kernel)) (by decide +kernel)
theorem wn_305 : Cond.instanceMethod yX8_set ∈ gBIG := gm (List.mem_of_getElem? (i := 359) (by decide +kernel)) (by decide +kernel)
theorem wn_306 : Cond.selects RX8 yX8_set yX8_set ∈ gBIG := gm (List.mem_of_getElem? (i := 360) (by decide +kernel)) (by decide +kernel)
theorem wn_307 : Cond.code yX8_set cX8_set 4 (some .int) ∈ gBIG := gm (List.mem_of_getElem? (i := 361) (by decide +kernel)) (by decide +kernel)
theorem wn_314 : Cond.methodLink RL 23 yX8_feed ∈ gBIG := gm (List.mem_of_getElem? (i := 368) (by decide +kernel)) (by decide +kernel)
theorem wn_315 : Cond.instanceMethod yX8_feed ∈ gBIG := gm (List.mem_of_getElem? (i := 369) (by decide +kernel)) (by decide +kernel)
theorem wn_316 : Cond.selects RX8 yX8_feed yX8_feed ∈ gBIG := gm (List.mem_of_getElem? (i := 370) (by decide +kernel)) (by decide +kernel)
theorem wn_317 : Cond.code yX8_feed cX8_feed 7 (some .int) ∈ gBIG := gm (List.mem_of_getElem? (i := 371) (by decide +kernel)) (by decide +kernel)
theorem wn_325 : Cond.methodLink RL 28 yX8_text ∈ gBIG := gm (List.mem_of_getElem? (i := 379) (by decide +kernel)) (by decide +kernel)
theorem wn_326 : Cond.instanceMethod yX8_text ∈ gBIG := gm (List.mem_of_getElem? (i := 380) (by decide +kernel)) (by decide +kernel)
theorem wn_327 : Cond.selects RX8 yX8_text yX8_text ∈ gBIG := gm (List.mem_of_getElem? (i := 381) (by decide +kernel)) (by decide +kernel)
theorem wn_328 : Cond.code yX8_text cX8_text 2 (some .int) ∈ gBIG := gm (List.mem_of_getElem? (i := 382) (by decide +kernel)) (by decide +kernel)
theorem wn_469 : Cond.methodLink RL 33 yX8_force ∈ gBIG := gm (List.mem_of_getElem? (i := 523) (by decide +kernel)) (by decide +kernel)
theorem wn_470 : Cond.instanceMethod yX8_force ∈ gBIG := gm (List.mem_of_getElem? (i := 524) (by decide +kernel)) (by decide +kernel)
theorem wn_471 : Cond.selects RX8 yX8_force yX8_force ∈ gBIG := gm (List.mem_of_getElem? (i := 525) (by decide +kernel)) (by decide +kernel)
theorem wn_472 : Cond.code yX8_force cX8_force 3 (some .int) ∈ gBIG := gm (List.mem_of_getElem? (i := 526) (by decide +kernel)) (by decide +kernel)
theorem wn_477 : Cond.methodLink RL 37 yX8_asks ∈ gBIG := gm (List.mem_of_getElem? (i := 531) (by decide +kernel)) (by decide +kernel)
theorem wn_478 : Cond.instanceMethod yX8_asks ∈ gBIG := gm (List.mem_of_getElem? (i := 532) (by decide +kernel)) (by decide +kernel)
theorem wn_479 : Cond.selects RX8 yX8_asks yX8_asks ∈ gBIG := gm (List.mem_of_getElem? (i := 533) (by decide +kernel)) (by decide +kernel)
theorem wn_480 : Cond.code yX8_asks cX8_asks 4 (some .int) ∈ gBIG := gm (List.mem_of_getElem? (i := 534) (by decide +kernel)) (by decide +kernel)
theorem wn_498 : Cond.methodLink RL 42 yX8_lay ∈ gBIG := gm (List.mem_of_getElem? (i := 552) (by decide +kernel)) (by decide +kernel)
theorem wn_499 : Cond.instanceMethod yX8_lay ∈ gBIG := gm (List.mem_of_getElem? (i := 553) (by decide +kernel)) (by decide +kernel)
theorem wn_500 : Cond.selects RX8 yX8_lay yX8_lay ∈ gBIG := gm (List.mem_of_getElem? (i := 554) (by decide +kernel)) (by decide +kernel)
theorem wn_501 : Cond.code yX8_lay cX8_lay 5 (some .int) ∈ gBIG := gm (List.mem_of_getElem? (i := 555) (by decide +kernel)) (by decide +kernel)
theorem wn_506 : Cond.methodLink RL 46 yX8_told ∈ gBIG := gm (List.mem_of_getElem? (i := 560) (by decide +kernel)) (by decide +kernel)
theorem wn_507 : Cond.instanceMethod yX8_told ∈ gBIG := gm (List.mem_of_getElem? (i := 561) (by decide +kernel)) (by decide +kernel)
theorem wn_508 : Cond.selects RX8 yX8_told yX8_told ∈ gBIG := gm (List.mem_of_getElem? (i := 562) (by decide +kernel)) (by decide +kernel)
theorem wn_509 : Cond.code yX8_told cX8_told 3 (some .int) ∈ gBIG := gm (List.mem_of_getElem? (i := 563) (by decide +kernel)) (by decide +kernel)
theorem wn_538 : Cond.methodLink RL 50 yX8_stretch ∈ gBIG := gm (List.mem_of_getElem? (i := 592) (by decide +kernel)) (by decide +kernel)
theorem wn_539 : Cond.instanceMethod yX8_stretch ∈ gBIG := gm (List.mem_of_getElem? (i := 593) (by decide +kernel)) (by decide +kernel)
theorem wn_540 : Cond.selects RX8 yX8_stretch yX8_stretch ∈ gBIG := gm (List.mem_of_getElem? (i := 594) (by decide +kernel)) (by decide +kernel)
theorem wn_541 : Cond.code yX8_stretch cX8_stretch 3 (some .int) ∈ gBIG := gm (List.mem_of_getElem? (i := 595) (by decide +kernel)) (by decide +kernel)
theorem wn_558 : Cond.methodLink RL 54 yX8_mean ∈ gBIG := gm (List.mem_of_getElem? (i := 612) (by decide +kernel)) (by decide +kernel)
theorem wn_559 : Cond.instanceMethod yX8_mean ∈ gBIG := gm (List.mem_of_getElem? (i := 613) (by decide +kernel)) (by decide +kernel)
theorem wn_560 : Cond.selects RX8 yX8_mean yX8_mean ∈ gBIG := gm (List.mem_of_getElem? (i := 614) (by decide +kernel)) (by decide +kernel)
theorem wn_561 : Cond.code yX8_mean cX8_mean 3 (some .long) ∈ gBIG := gm (List.mem_of_getElem? (i := 615) (by decide +kernel)) (by decide +kernel)
theorem wn_599 : Cond.methodLink RL 59 yX8_plan ∈ gBIG := gm (List.mem_of_getElem? (i := 653) (by decide +kernel)) (by decide +kernel)
theorem wn_600 : Cond.instanceMethod yX8_plan ∈ gBIG := gm (List.mem_of_getElem? (i := 654) (by decide +kernel)) (by decide +kernel)
theorem wn_601 : Cond.selects RX8 yX8_plan yX8_plan ∈ gBIG := gm (List.mem_of_getElem? (i := 655) (by decide +kernel)) (by decide +kernel)
theorem wn_602 : Cond.code yX8_plan cX8_plan 1 (some .long) ∈ gBIG := gm (List.mem_of_getElem? (i := 656) (by decide +kernel)) (by decide +kernel)
theorem wn_603 : Cond.methodLink RL 64 yX8_best ∈ gBIG := gm (List.mem_of_getElem? (i := 657) (by decide +kernel)) (by decide +kernel)
theorem wn_604 : Cond.instanceMethod yX8_best ∈ gBIG := gm (List.mem_of_getElem? (i := 658) (by decide +kernel)) (by decide +kernel)
theorem wn_605 : Cond.selects RX8 yX8_best yX8_best ∈ gBIG := gm (List.mem_of_getElem? (i := 659) (by decide +kernel)) (by decide +kernel)
theorem wn_606 : Cond.code yX8_best cX8_best 3 (some .long) ∈ gBIG := gm (List.mem_of_getElem? (i := 660) (by decide +kernel)) (by decide +kernel)
theorem wn_629 : Cond.methodLink RL 68 yX8_every ∈ gBIG := gm (List.mem_of_getElem? (i := 683) (by decide +kernel)) (by decide +kernel)
theorem wn_630 : Cond.instanceMethod yX8_every ∈ gBIG := gm (List.mem_of_getElem? (i := 684) (by decide +kernel)) (by decide +kernel)
theorem wn_631 : Cond.selects RX8 yX8_every yX8_every ∈ gBIG := gm (List.mem_of_getElem? (i := 685) (by decide +kernel)) (by decide +kernel)
theorem wn_632 : Cond.code yX8_every cX8_every 3 (some .long) ∈ gBIG := gm (List.mem_of_getElem? (i := 686) (by decide +kernel)) (by decide +kernel)
theorem wn_637 : Cond.methodLink RL 73 yX8_which ∈ gBIG := gm (List.mem_of_getElem? (i := 691) (by decide +kernel)) (by decide +kernel)
theorem wn_638 : Cond.instanceMethod yX8_which ∈ gBIG := gm (List.mem_of_getElem? (i := 692) (by decide +kernel)) (by decide +kernel)
theorem wn_639 : Cond.selects RX8 yX8_which yX8_which ∈ gBIG := gm (List.mem_of_getElem? (i := 693) (by decide +kernel)) (by decide +kernel)
theorem wn_640 : Cond.code yX8_which cX8_which 3 (some .long) ∈ gBIG := gm (List.mem_of_getElem? (i := 694) (by decide +kernel)) (by decide +kernel)
theorem wn_641 : Cond.methodLink RL 77 yX8_stop ∈ gBIG := gm (List.mem_of_getElem? (i := 695) (by decide +kernel)) (by decide +kernel)
theorem wn_642 : Cond.instanceMethod yX8_stop ∈ gBIG := gm (List.mem_of_getElem? (i := 696) (by decide +kernel)) (by decide +kernel)
theorem wn_643 : Cond.selects RX8 yX8_stop yX8_stop ∈ gBIG := gm (List.mem_of_getElem? (i := 697) (by decide +kernel)) (by decide +kernel)
theorem wn_644 : Cond.code yX8_stop cX8_stop 6 (some .long) ∈ gBIG := gm (List.mem_of_getElem? (i := 698) (by decide +kernel)) (by decide +kernel)
theorem wn_647 : Cond.methodLink RL 81 yX8_dear ∈ gBIG := gm (List.mem_of_getElem? (i := 701) (by decide +kernel)) (by decide +kernel)
theorem wn_648 : Cond.instanceMethod yX8_dear ∈ gBIG := gm (List.mem_of_getElem? (i := 702) (by decide +kernel)) (by decide +kernel)
theorem wn_649 : Cond.selects RX8 yX8_dear yX8_dear ∈ gBIG := gm (List.mem_of_getElem? (i := 703) (by decide +kernel)) (by decide +kernel)
theorem wn_650 : Cond.code yX8_dear cX8_dear 4 (some .long) ∈ gBIG := gm (List.mem_of_getElem? (i := 704) (by decide +kernel)) (by decide +kernel)
theorem wn_652 : Cond.methodLink RL 85 yX8_likely ∈ gBIG := gm (List.mem_of_getElem? (i := 706) (by decide +kernel)) (by decide +kernel)
theorem wn_653 : Cond.instanceMethod yX8_likely ∈ gBIG := gm (List.mem_of_getElem? (i := 707) (by decide +kernel)) (by decide +kernel)
theorem wn_654 : Cond.selects RX8 yX8_likely yX8_likely ∈ gBIG := gm (List.mem_of_getElem? (i := 708) (by decide +kernel)) (by decide +kernel)
theorem wn_655 : Cond.code yX8_likely cX8_likely 3 (some .long) ∈ gBIG := gm (List.mem_of_getElem? (i := 709) (by decide +kernel)) (by decide +kernel)
theorem wn_665 : Cond.methodLink RL 89 yX8_push ∈ gBIG := gm (List.mem_of_getElem? (i := 719) (by decide +kernel)) (by decide +kernel)
theorem wn_666 : Cond.instanceMethod yX8_push ∈ gBIG := gm (List.mem_of_getElem? (i := 720) (by decide +kernel)) (by decide +kernel)
theorem wn_667 : Cond.selects RX8 yX8_push yX8_push ∈ gBIG := gm (List.mem_of_getElem? (i := 721) (by decide +kernel)) (by decide +kernel)
theorem wn_668 : Cond.code yX8_push cX8_push 3 (some .int) ∈ gBIG := gm (List.mem_of_getElem? (i := 722) (by decide +kernel)) (by decide +kernel)
theorem wn_682 : Cond.methodLink RL 93 yX8_far ∈ gBIG := gm (List.mem_of_getElem? (i := 736) (by decide +kernel)) (by decide +kernel)
theorem wn_683 : Cond.instanceMethod yX8_far ∈ gBIG := gm (List.mem_of_getElem? (i := 737) (by decide +kernel)) (by decide +kernel)
theorem wn_684 : Cond.selects RX8 yX8_far yX8_far ∈ gBIG := gm (List.mem_of_getElem? (i := 738) (by decide +kernel)) (by decide +kernel)
theorem wn_685 : Cond.code yX8_far cX8_far 6 (some .int) ∈ gBIG := gm (List.mem_of_getElem? (i := 739) (by decide +kernel)) (by decide +kernel)
theorem wn_687 : Cond.methodLink RL 97 yX8_tip ∈ gBIG := gm (List.mem_of_getElem? (i := 741) (by decide +kernel)) (by decide +kernel)
theorem wn_688 : Cond.instanceMethod yX8_tip ∈ gBIG := gm (List.mem_of_getElem? (i := 742) (by decide +kernel)) (by decide +kernel)
theorem wn_689 : Cond.selects RX8 yX8_tip yX8_tip ∈ gBIG := gm (List.mem_of_getElem? (i := 743) (by decide +kernel)) (by decide +kernel)
theorem wn_690 : Cond.code yX8_tip cX8_tip 4 (some .int) ∈ gBIG := gm (List.mem_of_getElem? (i := 744) (by decide +kernel)) (by decide +kernel)
theorem wn_692 : Cond.methodLink RL 101 yX8_put ∈ gBIG := gm (List.mem_of_getElem? (i := 746) (by decide +kernel)) (by decide +kernel)
theorem wn_693 : Cond.instanceMethod yX8_put ∈ gBIG := gm (List.mem_of_getElem? (i := 747) (by decide +kernel)) (by decide +kernel)
theorem wn_694 : Cond.selects RX8 yX8_put yX8_put ∈ gBIG := gm (List.mem_of_getElem? (i := 748) (by decide +kernel)) (by decide +kernel)
theorem wn_695 : Cond.code yX8_put cX8_put 4 (some .int) ∈ gBIG := gm (List.mem_of_getElem? (i := 749) (by decide +kernel)) (by decide +kernel)
theorem wn_711 : Cond.methodLink RL 105 yX8_drawn ∈ gBIG := gm (List.mem_of_getElem? (i := 765) (by decide +kernel)) (by decide +kernel)
theorem wn_712 : Cond.instanceMethod yX8_drawn ∈ gBIG := gm (List.mem_of_getElem? (i := 766) (by decide +kernel)) (by decide +kernel)
theorem wn_713 : Cond.selects RX8 yX8_drawn yX8_drawn ∈ gBIG := gm (List.mem_of_getElem? (i := 767) (by decide +kernel)) (by decide +kernel)
theorem wn_714 : Cond.code yX8_drawn cX8_drawn 4 (some .int) ∈ gBIG := gm (List.mem_of_getElem? (i := 768) (by decide +kernel)) (by decide +kernel)
theorem wn_728 : Cond.methodLink RL 109 yX8_odds ∈ gBIG := gm (List.mem_of_getElem? (i := 782) (by decide +kernel)) (by decide +kernel)
theorem wn_729 : Cond.instanceMethod yX8_odds ∈ gBIG := gm (List.mem_of_getElem? (i := 783) (by decide +kernel)) (by decide +kernel)
theorem wn_730 : Cond.selects RX8 yX8_odds yX8_odds ∈ gBIG := gm (List.mem_of_getElem? (i := 784) (by decide +kernel)) (by decide +kernel)
theorem wn_731 : Cond.code yX8_odds cX8_odds 7 (some .long) ∈ gBIG := gm (List.mem_of_getElem? (i := 785) (by decide +kernel)) (by decide +kernel)
theorem wn_737 : Cond.methodLink RL 114 yX8_judge ∈ gBIG := gm (List.mem_of_getElem? (i := 791) (by decide +kernel)) (by decide +kernel)
theorem wn_738 : Cond.instanceMethod yX8_judge ∈ gBIG := gm (List.mem_of_getElem? (i := 792) (by decide +kernel)) (by decide +kernel)
theorem wn_739 : Cond.selects RX8 yX8_judge yX8_judge ∈ gBIG := gm (List.mem_of_getElem? (i := 793) (by decide +kernel)) (by decide +kernel)
theorem wn_740 : Cond.code yX8_judge cX8_judge 5 (some .int) ∈ gBIG := gm (List.mem_of_getElem? (i := 794) (by decide +kernel)) (by decide +kernel)
theorem wn_753 : Cond.methodLink RL 118 yX8_origin ∈ gBIG := gm (List.mem_of_getElem? (i := 807) (by decide +kernel)) (by decide +kernel)
theorem wn_754 : Cond.instanceMethod yX8_origin ∈ gBIG := gm (List.mem_of_getElem? (i := 808) (by decide +kernel)) (by decide +kernel)
theorem wn_755 : Cond.selects RX8 yX8_origin yX8_origin ∈ gBIG := gm (List.mem_of_getElem? (i := 809) (by decide +kernel)) (by decide +kernel)
theorem wn_756 : Cond.code yX8_origin cX8_origin 6 (some .int) ∈ gBIG := gm (List.mem_of_getElem? (i := 810) (by decide +kernel)) (by decide +kernel)
theorem wn_757 : Cond.methodLink RL 122 yX8_how ∈ gBIG := gm (List.mem_of_getElem? (i := 811) (by decide +kernel)) (by decide +kernel)
theorem wn_758 : Cond.instanceMethod yX8_how ∈ gBIG := gm (List.mem_of_getElem? (i := 812) (by decide +kernel)) (by decide +kernel)
theorem wn_759 : Cond.selects RX8 yX8_how yX8_how ∈ gBIG := gm (List.mem_of_getElem? (i := 813) (by decide +kernel)) (by decide +kernel)
theorem wn_760 : Cond.code yX8_how cX8_how 8 (some .int) ∈ gBIG := gm (List.mem_of_getElem? (i := 814) (by decide +kernel)) (by decide +kernel)
theorem wn_761 : Cond.methodLink RL 126 yX8_check ∈ gBIG := gm (List.mem_of_getElem? (i := 815) (by decide +kernel)) (by decide +kernel)
theorem wn_762 : Cond.instanceMethod yX8_check ∈ gBIG := gm (List.mem_of_getElem? (i := 816) (by decide +kernel)) (by decide +kernel)
theorem wn_763 : Cond.selects RX8 yX8_check yX8_check ∈ gBIG := gm (List.mem_of_getElem? (i := 817) (by decide +kernel)) (by decide +kernel)
theorem wn_764 : Cond.code yX8_check cX8_check 3 (some .int) ∈ gBIG := gm (List.mem_of_getElem? (i := 818) (by decide +kernel)) (by decide +kernel)
theorem wn_769 : Cond.methodLink RL 130 yX8_kinds ∈ gBIG := gm (List.mem_of_getElem? (i := 823) (by decide +kernel)) (by decide +kernel)
theorem wn_770 : Cond.instanceMethod yX8_kinds ∈ gBIG := gm (List.mem_of_getElem? (i := 824) (by decide +kernel)) (by decide +kernel)
theorem wn_771 : Cond.selects RX8 yX8_kinds yX8_kinds ∈ gBIG := gm (List.mem_of_getElem? (i := 825) (by decide +kernel)) (by decide +kernel)
theorem wn_772 : Cond.code yX8_kinds cX8_kinds 9 (some .int) ∈ gBIG := gm (List.mem_of_getElem? (i := 826) (by decide +kernel)) (by decide +kernel)
theorem wn_773 : Cond.methodLink RL 134 yX8_laws ∈ gBIG := gm (List.mem_of_getElem? (i := 827) (by decide +kernel)) (by decide +kernel)
theorem wn_774 : Cond.instanceMethod yX8_laws ∈ gBIG := gm (List.mem_of_getElem? (i := 828) (by decide +kernel)) (by decide +kernel)
theorem wn_775 : Cond.selects RX8 yX8_laws yX8_laws ∈ gBIG := gm (List.mem_of_getElem? (i := 829) (by decide +kernel)) (by decide +kernel)
theorem wn_776 : Cond.code yX8_laws cX8_laws 6 (some .int) ∈ gBIG := gm (List.mem_of_getElem? (i := 830) (by decide +kernel)) (by decide +kernel)
theorem wn_777 : Cond.methodLink RL 138 yX8_amiss ∈ gBIG := gm (List.mem_of_getElem? (i := 831) (by decide +kernel)) (by decide +kernel)
theorem wn_778 : Cond.instanceMethod yX8_amiss ∈ gBIG := gm (List.mem_of_getElem? (i := 832) (by decide +kernel)) (by decide +kernel)
theorem wn_779 : Cond.selects RX8 yX8_amiss yX8_amiss ∈ gBIG := gm (List.mem_of_getElem? (i := 833) (by decide +kernel)) (by decide +kernel)
theorem wn_780 : Cond.code yX8_amiss cX8_amiss 5 (some .long) ∈ gBIG := gm (List.mem_of_getElem? (i := 834) (by decide +kernel)) (by decide +kernel)
theorem wn_784 : Cond.methodLink RL 142 yX8_film ∈ gBIG := gm (List.mem_of_getElem? (i := 838) (by decide +kernel)) (by decide +kernel)
theorem wn_785 : Cond.instanceMethod yX8_film ∈ gBIG := gm (List.mem_of_getElem? (i := 839) (by decide +kernel)) (by decide +kernel)
theorem wn_786 : Cond.selects RX8 yX8_film yX8_film ∈ gBIG := gm (List.mem_of_getElem? (i := 840) (by decide +kernel)) (by decide +kernel)
theorem wn_787 : Cond.code yX8_film cX8_film 6 (some .int) ∈ gBIG := gm (List.mem_of_getElem? (i := 841) (by decide +kernel)) (by decide +kernel)
theorem wn_797 : Cond.methodLink RL 146 yX8_image ∈ gBIG := gm (List.mem_of_getElem? (i := 851) (by decide +kernel)) (by decide +kernel)
theorem wn_798 : Cond.instanceMethod yX8_image ∈ gBIG := gm (List.mem_of_getElem? (i := 852) (by decide +kernel)) (by decide +kernel)
theorem wn_799 : Cond.selects RX8 yX8_image yX8_image ∈ gBIG := gm (List.mem_of_getElem? (i := 853) (by decide +kernel)) (by decide +kernel)
theorem wn_800 : Cond.code yX8_image cX8_image 1 (some .int) ∈ gBIG := gm (List.mem_of_getElem? (i := 854) (by decide +kernel)) (by decide +kernel)
theorem wn_806 : Cond.methodLink RL 150 yX8_back ∈ gBIG := gm (List.mem_of_getElem? (i := 860) (by decide +kernel)) (by decide +kernel)
theorem wn_807 : Cond.instanceMethod yX8_back ∈ gBIG := gm (List.mem_of_getElem? (i := 861) (by decide +kernel)) (by decide +kernel)
theorem wn_808 : Cond.selects RX8 yX8_back yX8_back ∈ gBIG := gm (List.mem_of_getElem? (i := 862) (by decide +kernel)) (by decide +kernel)
theorem wn_809 : Cond.code yX8_back cX8_back 1 (some .int) ∈ gBIG := gm (List.mem_of_getElem? (i := 863) (by decide +kernel)) (by decide +kernel)
theorem wn_810 : Cond.methodLink RL 154 yX8_sheet ∈ gBIG := gm (List.mem_of_getElem? (i := 864) (by decide +kernel)) (by decide +kernel)
theorem wn_811 : Cond.instanceMethod yX8_sheet ∈ gBIG := gm (List.mem_of_getElem? (i := 865) (by decide +kernel)) (by decide +kernel)
theorem wn_812 : Cond.selects RX8 yX8_sheet yX8_sheet ∈ gBIG := gm (List.mem_of_getElem? (i := 866) (by decide +kernel)) (by decide +kernel)
theorem wn_813 : Cond.code yX8_sheet cX8_sheet 4 (some .int) ∈ gBIG := gm (List.mem_of_getElem? (i := 867) (by decide +kernel)) (by decide +kernel)
theorem wn_814 : Cond.methodLink RL 158 yX8_cell ∈ gBIG := gm (List.mem_of_getElem? (i := 868) (by decide +kernel)) (by decide +kernel)
theorem wn_815 : Cond.instanceMethod yX8_cell ∈ gBIG := gm (List.mem_of_getElem? (i := 869) (by decide +kernel)) (by decide +kernel)
theorem wn_816 : Cond.selects RX8 yX8_cell yX8_cell ∈ gBIG := gm (List.mem_of_getElem? (i := 870) (by decide +kernel)) (by decide +kernel)
theorem wn_817 : Cond.code yX8_cell cX8_cell 4 (some .int) ∈ gBIG := gm (List.mem_of_getElem? (i := 871) (by decide +kernel)) (by decide +kernel)
theorem wn_818 : Cond.methodLink RL 162 yX8_copy ∈ gBIG := gm (List.mem_of_getElem? (i := 872) (by decide +kernel)) (by decide +kernel)
theorem wn_819 : Cond.instanceMethod yX8_copy ∈ gBIG := gm (List.mem_of_getElem? (i := 873) (by decide +kernel)) (by decide +kernel)
theorem wn_820 : Cond.selects RX8 yX8_copy yX8_copy ∈ gBIG := gm (List.mem_of_getElem? (i := 874) (by decide +kernel)) (by decide +kernel)
theorem wn_821 : Cond.code yX8_copy cX8_copy 8 (some .int) ∈ gBIG := gm (List.mem_of_getElem? (i := 875) (by decide +kernel)) (by decide +kernel)
theorem wn_827 : Cond.methodLink RL 167 yX8_layBy ∈ gBIG := gm (List.mem_of_getElem? (i := 881) (by decide +kernel)) (by decide +kernel)
theorem wn_828 : Cond.instanceMethod yX8_layBy ∈ gBIG := gm (List.mem_of_getElem? (i := 882) (by decide +kernel)) (by decide +kernel)
theorem wn_829 : Cond.selects RX8 yX8_layBy yX8_layBy ∈ gBIG := gm (List.mem_of_getElem? (i := 883) (by decide +kernel)) (by decide +kernel)
theorem wn_830 : Cond.code yX8_layBy cX8_layBy 9 (some .int) ∈ gBIG := gm (List.mem_of_getElem? (i := 884) (by decide +kernel)) (by decide +kernel)
theorem wn_832 : Cond.methodLink RL 172 yX8_taken ∈ gBIG := gm (List.mem_of_getElem? (i := 886) (by decide +kernel)) (by decide +kernel)
theorem wn_833 : Cond.instanceMethod yX8_taken ∈ gBIG := gm (List.mem_of_getElem? (i := 887) (by decide +kernel)) (by decide +kernel)
theorem wn_834 : Cond.selects RX8 yX8_taken yX8_taken ∈ gBIG := gm (List.mem_of_getElem? (i := 888) (by decide +kernel)) (by decide +kernel)
theorem wn_835 : Cond.code yX8_taken cX8_taken 5 (some .long) ∈ gBIG := gm (List.mem_of_getElem? (i := 889) (by decide +kernel)) (by decide +kernel)
theorem wn_1013 : Cond.methodLink RL 17 yX9_count ∈ gBIG := gm (List.mem_of_getElem? (i := 1067) (by decide +kernel)) (by decide +kernel)
theorem wn_1014 : Cond.instanceMethod yX9_count ∈ gBIG := gm (List.mem_of_getElem? (i := 1068) (by decide +kernel)) (by decide +kernel)
theorem wn_1015 : Cond.selects RX9 yX9_count yX9_count ∈ gBIG := gm (List.mem_of_getElem? (i := 1069) (by decide +kernel)) (by decide +kernel)
theorem wn_1016 : Cond.code yX9_count cX9_count 2 (some .int) ∈ gBIG := gm (List.mem_of_getElem? (i := 1070) (by decide +kernel)) (by decide +kernel)
theorem wn_1017 : Cond.methodLink RL 22 yX9_set ∈ gBIG := gm (List.mem_of_getElem? (i := 1071) (by decide +kernel)) (by decide +kernel)
theorem wn_1018 : Cond.instanceMethod yX9_set ∈ gBIG := gm (List.mem_of_getElem? (i := 1072) (by decide +kernel)) (by decide +kernel)
theorem wn_1019 : Cond.selects RX9 yX9_set yX9_set ∈ gBIG := gm (List.mem_of_getElem? (i := 1073) (by decide +kernel)) (by decide +kernel)
theorem wn_1020 : Cond.code yX9_set cX9_set 4 (some .int) ∈ gBIG := gm (List.mem_of_getElem? (i := 1074) (by decide +kernel)) (by decide +kernel)
theorem wn_1022 : Cond.methodLink RL 27 yX9_feed ∈ gBIG := gm (List.mem_of_getElem? (i := 1076) (by decide +kernel)) (by decide +kernel)
theorem wn_1023 : Cond.instanceMethod yX9_feed ∈ gBIG := gm (List.mem_of_getElem? (i := 1077) (by decide +kernel)) (by decide +kernel)
theorem wn_1024 : Cond.selects RX9 yX9_feed yX9_feed ∈ gBIG := gm (List.mem_of_getElem? (i := 1078) (by decide +kernel)) (by decide +kernel)
theorem wn_1025 : Cond.code yX9_feed cX9_feed 8 (some .int) ∈ gBIG := gm (List.mem_of_getElem? (i := 1079) (by decide +kernel)) (by decide +kernel)
theorem wn_1029 : Cond.methodLink RL 32 yX9_text ∈ gBIG := gm (List.mem_of_getElem? (i := 1083) (by decide +kernel)) (by decide +kernel)
theorem wn_1030 : Cond.methodLink RL 36 yX9_force ∈ gBIG := gm (List.mem_of_getElem? (i := 1084) (by decide +kernel)) (by decide +kernel)
theorem wn_1031 : Cond.instanceMethod yX9_force ∈ gBIG := gm (List.mem_of_getElem? (i := 1085) (by decide +kernel)) (by decide +kernel)
theorem wn_1032 : Cond.selects RX9 yX9_force yX9_force ∈ gBIG := gm (List.mem_of_getElem? (i := 1086) (by decide +kernel)) (by decide +kernel)
theorem wn_1033 : Cond.code yX9_force cX9_force 3 (some .int) ∈ gBIG := gm (List.mem_of_getElem? (i := 1087) (by decide +kernel)) (by decide +kernel)
theorem wn_1034 : Cond.methodLink RL 41 yX9_asks ∈ gBIG := gm (List.mem_of_getElem? (i := 1088) (by decide +kernel)) (by decide +kernel)
theorem wn_1035 : Cond.instanceMethod yX9_asks ∈ gBIG := gm (List.mem_of_getElem? (i := 1089) (by decide +kernel)) (by decide +kernel)
theorem wn_1036 : Cond.selects RX9 yX9_asks yX9_asks ∈ gBIG := gm (List.mem_of_getElem? (i := 1090) (by decide +kernel)) (by decide +kernel)
theorem wn_1037 : Cond.code yX9_asks cX9_asks 4 (some .int) ∈ gBIG := gm (List.mem_of_getElem? (i := 1091) (by decide +kernel)) (by decide +kernel)
theorem wn_1058 : Cond.methodLink RL 45 yX9_lay ∈ gBIG := gm (List.mem_of_getElem? (i := 1112) (by decide +kernel)) (by decide +kernel)
theorem wn_1059 : Cond.instanceMethod yX9_lay ∈ gBIG := gm (List.mem_of_getElem? (i := 1113) (by decide +kernel)) (by decide +kernel)
theorem wn_1060 : Cond.selects RX9 yX9_lay yX9_lay ∈ gBIG := gm (List.mem_of_getElem? (i := 1114) (by decide +kernel)) (by decide +kernel)
theorem wn_1061 : Cond.code yX9_lay cX9_lay 5 (some .int) ∈ gBIG := gm (List.mem_of_getElem? (i := 1115) (by decide +kernel)) (by decide +kernel)
theorem wn_1062 : Cond.methodLink RL 49 yX9_told ∈ gBIG := gm (List.mem_of_getElem? (i := 1116) (by decide +kernel)) (by decide +kernel)
theorem wn_1063 : Cond.instanceMethod yX9_told ∈ gBIG := gm (List.mem_of_getElem? (i := 1117) (by decide +kernel)) (by decide +kernel)
theorem wn_1064 : Cond.selects RX9 yX9_told yX9_told ∈ gBIG := gm (List.mem_of_getElem? (i := 1118) (by decide +kernel)) (by decide +kernel)
theorem wn_1065 : Cond.code yX9_told cX9_told 3 (some .int) ∈ gBIG := gm (List.mem_of_getElem? (i := 1119) (by decide +kernel)) (by decide +kernel)
theorem wn_1078 : Cond.methodLink RL 53 yX9_stretch ∈ gBIG := gm (List.mem_of_getElem? (i := 1132) (by decide +kernel)) (by decide +kernel)
theorem wn_1079 : Cond.instanceMethod yX9_stretch ∈ gBIG := gm (List.mem_of_getElem? (i := 1133) (by decide +kernel)) (by decide +kernel)
theorem wn_1080 : Cond.selects RX9 yX9_stretch yX9_stretch ∈ gBIG := gm (List.mem_of_getElem? (i := 1134) (by decide +kernel)) (by decide +kernel)
theorem wn_1081 : Cond.code yX9_stretch cX9_stretch 3 (some .int) ∈ gBIG := gm (List.mem_of_getElem? (i := 1135) (by decide +kernel)) (by decide +kernel)
theorem wn_1097 : Cond.methodLink RL 58 yX9_mean ∈ gBIG := gm (List.mem_of_getElem? (i := 1151) (by decide +kernel)) (by decide +kernel)
theorem wn_1098 : Cond.instanceMethod yX9_mean ∈ gBIG := gm (List.mem_of_getElem? (i := 1152) (by decide +kernel)) (by decide +kernel)
theorem wn_1099 : Cond.selects RX9 yX9_mean yX9_mean ∈ gBIG := gm (List.mem_of_getElem? (i := 1153) (by decide +kernel)) (by decide +kernel)
theorem wn_1100 : Cond.code yX9_mean cX9_mean 3 (some .long) ∈ gBIG := gm (List.mem_of_getElem? (i := 1154) (by decide +kernel)) (by decide +kernel)
theorem wn_1129 : Cond.methodLink RL 63 yX9_plan ∈ gBIG := gm (List.mem_of_getElem? (i := 1183) (by decide +kernel)) (by decide +kernel)
theorem wn_1130 : Cond.instanceMethod yX9_plan ∈ gBIG := gm (List.mem_of_getElem? (i := 1184) (by decide +kernel)) (by decide +kernel)
theorem wn_1131 : Cond.selects RX9 yX9_plan yX9_plan ∈ gBIG := gm (List.mem_of_getElem? (i := 1185) (by decide +kernel)) (by decide +kernel)
theorem wn_1132 : Cond.code yX9_plan cX9_plan 1 (some .long) ∈ gBIG := gm (List.mem_of_getElem? (i := 1186) (by decide +kernel)) (by decide +kernel)
theorem wn_1133 : Cond.methodLink RL 67 yX9_best ∈ gBIG := gm (List.mem_of_getElem? (i := 1187) (by decide +kernel)) (by decide +kernel)
theorem wn_1134 : Cond.instanceMethod yX9_best ∈ gBIG := gm (List.mem_of_getElem? (i := 1188) (by decide +kernel)) (by decide +kernel)
theorem wn_1135 : Cond.selects RX9 yX9_best yX9_best ∈ gBIG := gm (List.mem_of_getElem? (i := 1189) (by decide +kernel)) (by decide +kernel)
theorem wn_1136 : Cond.code yX9_best cX9_best 12 (some .long) ∈ gBIG := gm (List.mem_of_getElem? (i := 1190) (by decide +kernel)) (by decide +kernel)
theorem wn_1140 : Cond.methodLink RL 72 yX9_every ∈ gBIG := gm (List.mem_of_getElem? (i := 1194) (by decide +kernel)) (by decide +kernel)
theorem wn_1141 : Cond.instanceMethod yX9_every ∈ gBIG := gm (List.mem_of_getElem? (i := 1195) (by decide +kernel)) (by decide +kernel)
theorem wn_1142 : Cond.selects RX9 yX9_every yX9_every ∈ gBIG := gm (List.mem_of_getElem? (i := 1196) (by decide +kernel)) (by decide +kernel)
theorem wn_1143 : Cond.code yX9_every cX9_every 9 (some .long) ∈ gBIG := gm (List.mem_of_getElem? (i := 1197) (by decide +kernel)) (by decide +kernel)
theorem wn_1147 : Cond.methodLink RL 76 yX9_which ∈ gBIG := gm (List.mem_of_getElem? (i := 1201) (by decide +kernel)) (by decide +kernel)
theorem wn_1148 : Cond.instanceMethod yX9_which ∈ gBIG := gm (List.mem_of_getElem? (i := 1202) (by decide +kernel)) (by decide +kernel)
theorem wn_1149 : Cond.selects RX9 yX9_which yX9_which ∈ gBIG := gm (List.mem_of_getElem? (i := 1203) (by decide +kernel)) (by decide +kernel)
theorem wn_1150 : Cond.code yX9_which cX9_which 9 (some .long) ∈ gBIG := gm (List.mem_of_getElem? (i := 1204) (by decide +kernel)) (by decide +kernel)
theorem wn_1151 : Cond.methodLink RL 80 yX9_stop ∈ gBIG := gm (List.mem_of_getElem? (i := 1205) (by decide +kernel)) (by decide +kernel)
theorem wn_1152 : Cond.instanceMethod yX9_stop ∈ gBIG := gm (List.mem_of_getElem? (i := 1206) (by decide +kernel)) (by decide +kernel)
theorem wn_1153 : Cond.selects RX9 yX9_stop yX9_stop ∈ gBIG := gm (List.mem_of_getElem? (i := 1207) (by decide +kernel)) (by decide +kernel)
theorem wn_1154 : Cond.code yX9_stop cX9_stop 11 (some .long) ∈ gBIG := gm (List.mem_of_getElem? (i := 1208) (by decide +kernel)) (by decide +kernel)
theorem wn_1156 : Cond.methodLink RL 84 yX9_dear ∈ gBIG := gm (List.mem_of_getElem? (i := 1210) (by decide +kernel)) (by decide +kernel)
theorem wn_1157 : Cond.instanceMethod yX9_dear ∈ gBIG := gm (List.mem_of_getElem? (i := 1211) (by decide +kernel)) (by decide +kernel)
theorem wn_1158 : Cond.selects RX9 yX9_dear yX9_dear ∈ gBIG := gm (List.mem_of_getElem? (i := 1212) (by decide +kernel)) (by decide +kernel)
theorem wn_1159 : Cond.code yX9_dear cX9_dear 9 (some .long) ∈ gBIG := gm (List.mem_of_getElem? (i := 1213) (by decide +kernel)) (by decide +kernel)
theorem wn_1160 : Cond.methodLink RL 88 yX9_likely ∈ gBIG := gm (List.mem_of_getElem? (i := 1214) (by decide +kernel)) (by decide +kernel)
theorem wn_1161 : Cond.instanceMethod yX9_likely ∈ gBIG := gm (List.mem_of_getElem? (i := 1215) (by decide +kernel)) (by decide +kernel)
theorem wn_1162 : Cond.selects RX9 yX9_likely yX9_likely ∈ gBIG := gm (List.mem_of_getElem? (i := 1216) (by decide +kernel)) (by decide +kernel)
theorem wn_1163 : Cond.code yX9_likely cX9_likely 6 (some .long) ∈ gBIG := gm (List.mem_of_getElem? (i := 1217) (by decide +kernel)) (by decide +kernel)
theorem wn_1165 : Cond.methodLink RL 92 yX9_push ∈ gBIG := gm (List.mem_of_getElem? (i := 1219) (by decide +kernel)) (by decide +kernel)
theorem wn_1166 : Cond.instanceMethod yX9_push ∈ gBIG := gm (List.mem_of_getElem? (i := 1220) (by decide +kernel)) (by decide +kernel)
theorem wn_1167 : Cond.selects RX9 yX9_push yX9_push ∈ gBIG := gm (List.mem_of_getElem? (i := 1221) (by decide +kernel)) (by decide +kernel)
theorem wn_1168 : Cond.code yX9_push cX9_push 3 (some .int) ∈ gBIG := gm (List.mem_of_getElem? (i := 1222) (by decide +kernel)) (by decide +kernel)
theorem wn_1183 : Cond.methodLink RL 96 yX9_far ∈ gBIG := gm (List.mem_of_getElem? (i := 1237) (by decide +kernel)) (by decide +kernel)
theorem wn_1184 : Cond.instanceMethod yX9_far ∈ gBIG := gm (List.mem_of_getElem? (i := 1238) (by decide +kernel)) (by decide +kernel)
theorem wn_1185 : Cond.selects RX9 yX9_far yX9_far ∈ gBIG := gm (List.mem_of_getElem? (i := 1239) (by decide +kernel)) (by decide +kernel)
theorem wn_1186 : Cond.code yX9_far cX9_far 6 (some .int) ∈ gBIG := gm (List.mem_of_getElem? (i := 1240) (by decide +kernel)) (by decide +kernel)
theorem wn_1187 : Cond.methodLink RL 100 yX9_tip ∈ gBIG := gm (List.mem_of_getElem? (i := 1241) (by decide +kernel)) (by decide +kernel)
theorem wn_1188 : Cond.instanceMethod yX9_tip ∈ gBIG := gm (List.mem_of_getElem? (i := 1242) (by decide +kernel)) (by decide +kernel)
theorem wn_1189 : Cond.selects RX9 yX9_tip yX9_tip ∈ gBIG := gm (List.mem_of_getElem? (i := 1243) (by decide +kernel)) (by decide +kernel)
theorem wn_1190 : Cond.code yX9_tip cX9_tip 4 (some .int) ∈ gBIG := gm (List.mem_of_getElem? (i := 1244) (by decide +kernel)) (by decide +kernel)
theorem wn_1191 : Cond.methodLink RL 104 yX9_put ∈ gBIG := gm (List.mem_of_getElem? (i := 1245) (by decide +kernel)) (by decide +kernel)
theorem wn_1192 : Cond.instanceMethod yX9_put ∈ gBIG := gm (List.mem_of_getElem? (i := 1246) (by decide +kernel)) (by decide +kernel)
theorem wn_1193 : Cond.selects RX9 yX9_put yX9_put ∈ gBIG := gm (List.mem_of_getElem? (i := 1247) (by decide +kernel)) (by decide +kernel)
theorem wn_1194 : Cond.code yX9_put cX9_put 4 (some .int) ∈ gBIG := gm (List.mem_of_getElem? (i := 1248) (by decide +kernel)) (by decide +kernel)
theorem wn_1202 : Cond.methodLink RL 108 yX9_drawn ∈ gBIG := gm (List.mem_of_getElem? (i := 1256) (by decide +kernel)) (by decide +kernel)
theorem wn_1203 : Cond.instanceMethod yX9_drawn ∈ gBIG := gm (List.mem_of_getElem? (i := 1257) (by decide +kernel)) (by decide +kernel)
theorem wn_1204 : Cond.selects RX9 yX9_drawn yX9_drawn ∈ gBIG := gm (List.mem_of_getElem? (i := 1258) (by decide +kernel)) (by decide +kernel)
theorem wn_1205 : Cond.code yX9_drawn cX9_drawn 4 (some .int) ∈ gBIG := gm (List.mem_of_getElem? (i := 1259) (by decide +kernel)) (by decide +kernel)
theorem wn_1210 : Cond.methodLink RL 113 yX9_odds ∈ gBIG := gm (List.mem_of_getElem? (i := 1264) (by decide +kernel)) (by decide +kernel)
theorem wn_1211 : Cond.instanceMethod yX9_odds ∈ gBIG := gm (List.mem_of_getElem? (i := 1265) (by decide +kernel)) (by decide +kernel)
theorem wn_1212 : Cond.selects RX9 yX9_odds yX9_odds ∈ gBIG := gm (List.mem_of_getElem? (i := 1266) (by decide +kernel)) (by decide +kernel)
theorem wn_1213 : Cond.code yX9_odds cX9_odds 8 (some .long) ∈ gBIG := gm (List.mem_of_getElem? (i := 1267) (by decide +kernel)) (by decide +kernel)
theorem wn_1217 : Cond.methodLink RL 117 yX9_judge ∈ gBIG := gm (List.mem_of_getElem? (i := 1271) (by decide +kernel)) (by decide +kernel)
theorem wn_1218 : Cond.instanceMethod yX9_judge ∈ gBIG := gm (List.mem_of_getElem? (i := 1272) (by decide +kernel)) (by decide +kernel)
theorem wn_1219 : Cond.selects RX9 yX9_judge yX9_judge ∈ gBIG := gm (List.mem_of_getElem? (i := 1273) (by decide +kernel)) (by decide +kernel)
theorem wn_1220 : Cond.code yX9_judge cX9_judge 5 (some .int) ∈ gBIG := gm (List.mem_of_getElem? (i := 1274) (by decide +kernel)) (by decide +kernel)
theorem wn_1229 : Cond.methodLink RL 121 yX9_origin ∈ gBIG := gm (List.mem_of_getElem? (i := 1283) (by decide +kernel)) (by decide +kernel)
theorem wn_1230 : Cond.instanceMethod yX9_origin ∈ gBIG := gm (List.mem_of_getElem? (i := 1284) (by decide +kernel)) (by decide +kernel)
theorem wn_1231 : Cond.selects RX9 yX9_origin yX9_origin ∈ gBIG := gm (List.mem_of_getElem? (i := 1285) (by decide +kernel)) (by decide +kernel)
theorem wn_1232 : Cond.code yX9_origin cX9_origin 7 (some .int) ∈ gBIG := gm (List.mem_of_getElem? (i := 1286) (by decide +kernel)) (by decide +kernel)
theorem wn_1233 : Cond.methodLink RL 125 yX9_how ∈ gBIG := gm (List.mem_of_getElem? (i := 1287) (by decide +kernel)) (by decide +kernel)
theorem wn_1234 : Cond.instanceMethod yX9_how ∈ gBIG := gm (List.mem_of_getElem? (i := 1288) (by decide +kernel)) (by decide +kernel)
theorem wn_1235 : Cond.selects RX9 yX9_how yX9_how ∈ gBIG := gm (List.mem_of_getElem? (i := 1289) (by decide +kernel)) (by decide +kernel)
theorem wn_1236 : Cond.code yX9_how cX9_how 8 (some .int) ∈ gBIG := gm (List.mem_of_getElem? (i := 1290) (by decide +kernel)) (by decide +kernel)
theorem wn_1237 : Cond.methodLink RL 129 yX9_check ∈ gBIG := gm (List.mem_of_getElem? (i := 1291) (by decide +kernel)) (by decide +kernel)
theorem wn_1238 : Cond.instanceMethod yX9_check ∈ gBIG := gm (List.mem_of_getElem? (i := 1292) (by decide +kernel)) (by decide +kernel)
theorem wn_1239 : Cond.selects RX9 yX9_check yX9_check ∈ gBIG := gm (List.mem_of_getElem? (i := 1293) (by decide +kernel)) (by decide +kernel)
theorem wn_1240 : Cond.code yX9_check cX9_check 3 (some .int) ∈ gBIG := gm (List.mem_of_getElem? (i := 1294) (by decide +kernel)) (by decide +kernel)
theorem wn_1245 : Cond.methodLink RL 133 yX9_kinds ∈ gBIG := gm (List.mem_of_getElem? (i := 1299) (by decide +kernel)) (by decide +kernel)
theorem wn_1246 : Cond.instanceMethod yX9_kinds ∈ gBIG := gm (List.mem_of_getElem? (i := 1300) (by decide +kernel)) (by decide +kernel)
theorem wn_1247 : Cond.selects RX9 yX9_kinds yX9_kinds ∈ gBIG := gm (List.mem_of_getElem? (i := 1301) (by decide +kernel)) (by decide +kernel)
theorem wn_1248 : Cond.code yX9_kinds cX9_kinds 9 (some .int) ∈ gBIG := gm (List.mem_of_getElem? (i := 1302) (by decide +kernel)) (by decide +kernel)
theorem wn_1249 : Cond.methodLink RL 137 yX9_laws ∈ gBIG := gm (List.mem_of_getElem? (i := 1303) (by decide +kernel)) (by decide +kernel)
theorem wn_1250 : Cond.instanceMethod yX9_laws ∈ gBIG := gm (List.mem_of_getElem? (i := 1304) (by decide +kernel)) (by decide +kernel)
theorem wn_1251 : Cond.selects RX9 yX9_laws yX9_laws ∈ gBIG := gm (List.mem_of_getElem? (i := 1305) (by decide +kernel)) (by decide +kernel)
theorem wn_1252 : Cond.code yX9_laws cX9_laws 6 (some .int) ∈ gBIG := gm (List.mem_of_getElem? (i := 1306) (by decide +kernel)) (by decide +kernel)
theorem wn_1253 : Cond.methodLink RL 141 yX9_amiss ∈ gBIG := gm (List.mem_of_getElem? (i := 1307) (by decide +kernel)) (by decide +kernel)
theorem wn_1254 : Cond.instanceMethod yX9_amiss ∈ gBIG := gm (List.mem_of_getElem? (i := 1308) (by decide +kernel)) (by decide +kernel)
theorem wn_1255 : Cond.selects RX9 yX9_amiss yX9_amiss ∈ gBIG := gm (List.mem_of_getElem? (i := 1309) (by decide +kernel)) (by decide +kernel)
theorem wn_1256 : Cond.code yX9_amiss cX9_amiss 7 (some .long) ∈ gBIG := gm (List.mem_of_getElem? (i := 1310) (by decide +kernel)) (by decide +kernel)
theorem wn_1257 : Cond.methodLink RL 145 yX9_film ∈ gBIG := gm (List.mem_of_getElem? (i := 1311) (by decide +kernel)) (by decide +kernel)
theorem wn_1258 : Cond.instanceMethod yX9_film ∈ gBIG := gm (List.mem_of_getElem? (i := 1312) (by decide +kernel)) (by decide +kernel)
theorem wn_1259 : Cond.selects RX9 yX9_film yX9_film ∈ gBIG := gm (List.mem_of_getElem? (i := 1313) (by decide +kernel)) (by decide +kernel)
theorem wn_1260 : Cond.code yX9_film cX9_film 7 (some .int) ∈ gBIG := gm (List.mem_of_getElem? (i := 1314) (by decide +kernel)) (by decide +kernel)
theorem wn_1261 : Cond.methodLink RL 149 yX9_image ∈ gBIG := gm (List.mem_of_getElem? (i := 1315) (by decide +kernel)) (by decide +kernel)
theorem wn_1262 : Cond.instanceMethod yX9_image ∈ gBIG := gm (List.mem_of_getElem? (i := 1316) (by decide +kernel)) (by decide +kernel)
theorem wn_1263 : Cond.selects RX9 yX9_image yX9_image ∈ gBIG := gm (List.mem_of_getElem? (i := 1317) (by decide +kernel)) (by decide +kernel)
theorem wn_1264 : Cond.code yX9_image cX9_image 2 (some .int) ∈ gBIG := gm (List.mem_of_getElem? (i := 1318) (by decide +kernel)) (by decide +kernel)
theorem wn_1265 : Cond.methodLink RL 153 yX9_back ∈ gBIG := gm (List.mem_of_getElem? (i := 1319) (by decide +kernel)) (by decide +kernel)
theorem wn_1266 : Cond.instanceMethod yX9_back ∈ gBIG := gm (List.mem_of_getElem? (i := 1320) (by decide +kernel)) (by decide +kernel)
theorem wn_1267 : Cond.selects RX9 yX9_back yX9_back ∈ gBIG := gm (List.mem_of_getElem? (i := 1321) (by decide +kernel)) (by decide +kernel)
theorem wn_1268 : Cond.code yX9_back cX9_back 2 (some .int) ∈ gBIG := gm (List.mem_of_getElem? (i := 1322) (by decide +kernel)) (by decide +kernel)
theorem wn_1269 : Cond.methodLink RL 157 yX9_sheet ∈ gBIG := gm (List.mem_of_getElem? (i := 1323) (by decide +kernel)) (by decide +kernel)
theorem wn_1270 : Cond.instanceMethod yX9_sheet ∈ gBIG := gm (List.mem_of_getElem? (i := 1324) (by decide +kernel)) (by decide +kernel)
theorem wn_1271 : Cond.selects RX9 yX9_sheet yX9_sheet ∈ gBIG := gm (List.mem_of_getElem? (i := 1325) (by decide +kernel)) (by decide +kernel)
theorem wn_1272 : Cond.code yX9_sheet cX9_sheet 5 (some .int) ∈ gBIG := gm (List.mem_of_getElem? (i := 1326) (by decide +kernel)) (by decide +kernel)
theorem wn_1273 : Cond.methodLink RL 161 yX9_cell ∈ gBIG := gm (List.mem_of_getElem? (i := 1327) (by decide +kernel)) (by decide +kernel)
theorem wn_1274 : Cond.instanceMethod yX9_cell ∈ gBIG := gm (List.mem_of_getElem? (i := 1328) (by decide +kernel)) (by decide +kernel)
theorem wn_1275 : Cond.selects RX9 yX9_cell yX9_cell ∈ gBIG := gm (List.mem_of_getElem? (i := 1329) (by decide +kernel)) (by decide +kernel)
theorem wn_1276 : Cond.code yX9_cell cX9_cell 4 (some .int) ∈ gBIG := gm (List.mem_of_getElem? (i := 1330) (by decide +kernel)) (by decide +kernel)
theorem wn_1277 : Cond.methodLink RL 166 yX9_copy ∈ gBIG := gm (List.mem_of_getElem? (i := 1331) (by decide +kernel)) (by decide +kernel)
theorem wn_1278 : Cond.instanceMethod yX9_copy ∈ gBIG := gm (List.mem_of_getElem? (i := 1332) (by decide +kernel)) (by decide +kernel)
theorem wn_1279 : Cond.selects RX9 yX9_copy yX9_copy ∈ gBIG := gm (List.mem_of_getElem? (i := 1333) (by decide +kernel)) (by decide +kernel)
theorem wn_1280 : Cond.code yX9_copy cX9_copy 10 (some .int) ∈ gBIG := gm (List.mem_of_getElem? (i := 1334) (by decide +kernel)) (by decide +kernel)
theorem wn_1281 : Cond.methodLink RL 171 yX9_layBy ∈ gBIG := gm (List.mem_of_getElem? (i := 1335) (by decide +kernel)) (by decide +kernel)
theorem wn_1282 : Cond.instanceMethod yX9_layBy ∈ gBIG := gm (List.mem_of_getElem? (i := 1336) (by decide +kernel)) (by decide +kernel)
theorem wn_1283 : Cond.selects RX9 yX9_layBy yX9_layBy ∈ gBIG := gm (List.mem_of_getElem? (i := 1337) (by decide +kernel)) (by decide +kernel)
theorem wn_1284 : Cond.code yX9_layBy cX9_layBy 9 (some .int) ∈ gBIG := gm (List.mem_of_getElem? (i := 1338) (by decide +kernel)) (by decide +kernel)
theorem wn_1286 : Cond.methodLink RL 175 yX9_taken ∈ gBIG := gm (List.mem_of_getElem? (i := 1340) (by decide +kernel)) (by decide +kernel)
theorem wn_1287 : Cond.instanceMethod yX9_taken ∈ gBIG := gm (List.mem_of_getElem? (i := 1341) (by decide +kernel)) (by decide +kernel)
theorem wn_1288 : Cond.selects RX9 yX9_taken yX9_taken ∈ gBIG := gm (List.mem_of_getElem? (i := 1342) (by decide +kernel)) (by decide +kernel)
theorem wn_1289 : Cond.code yX9_taken cX9_taken 4 (some .long) ∈ gBIG := gm (List.mem_of_getElem? (i := 1343) (by decide +kernel)) (by decide +kernel)
set_option maxRecDepth 100000 in
set_option maxHeartbeats 4000000 in
theorem lq_count {D : va_G} {a b : Nat → Nat} {cI cJ cS cT : ClassId} {A : Nat → Prop} {p : Program} {l : Launch} {e : Env} {s : State} {m : MethodId} {args : Array Value} {below : List Frame} {meth : Method} {c : Code} {QQ : State → Prop} {bs L : Nat} {xs : Nat → Int32} {adK adV : Nat → Nat} {kA : Nat} (E : nE D (gT cI cJ cS cT) A p s m args meth c cL_law 4 RL ret meth.name) (HX : XS adK adV kA A s) (hXs : va_X bs L xs s s.heap) (hbl : bs < s.heap.size) (hbA : ¬ A bs) (hL : L ≤ 3584) {i : Nat} (hi : i + 7 ≤ L) {sx t : gMem} (hI : INW sx t) (kk : ∀ sx' t' : gMem, INW sx' t' → nK D A p l e room_1 s m args below meth c 4 QQ (wdX a cI cJ cS cT sx' ++ wdM b cI cJ t') 67 4894 1487 (lqV i a b bs) []) : nK D A p l e room_1 s m args below meth c 4 QQ (wdX a cI cJ cS cT sx ++ wdM b cI cJ t) 67 4894 200 (lqV i a b bs) [] := by
  obtain ⟨⟨-, ⟨⟨hRX, -, -, -, -, -, -, -, -, -, -, -, -⟩, -, -, -, -, -, -, -, -, -, -, -, -, -, -, -, -, -, -, -, -, -⟩, ⟨⟨hRM, -, -, -, -⟩, -, -, -, -, -, -, -, -, -⟩, -, -, -⟩, -⟩ := id hI
  have q := EW_count hI (i_rg (xs (i + 1)))
  refine n_aload (pc := 200) E 1 dL_law_200 rfl rfl ?_
  refine n_arg (pc := 201) E hXs hbl hbA hL (i := i) 1 rfl rfl (by omega) dL_law_201 dL_law_202 dL_law_203 dL_law_204 dL_law_205 ?_
  refine n_callG (pc := 206) (np := 1) (As := [gI (xs (i + 1)).toInt]) (st := []) (q0 := 0) (σ := sx) (wr := wdM b cI cJ t) E (c_X8_count l D a cI cJ cS cT sx (xs (i + 1)).toInt (i_rg _) ) (hwdX a cI cJ cS cT) hRX rfl rfl wn_303 wn_1 wn_300 wn_301 wn_302 (by decide +kernel) ⟨Nat.le_of_ble_eq_true rfl, Nat.le_of_ble_eq_true rfl⟩ ⟨Nat.le_of_ble_eq_true rfl, Nat.le_of_ble_eq_true rfl⟩ rfl (Nat.le_of_ble_eq_true rfl) lqA lqB (lqA_ a b cI cJ cS cT sx t) (lqB_ a b cI cJ cS cT sx t) lqAn lqBn lqAB dL_law_206 (fun _ _ => ?_)
  refine n_st (st' := [gI ((f_X8_count (xs (i + 1)).toInt sx), sx).1]) rfl ?_
  refine n_aload (pc := 209) E 2 dL_law_209 rfl rfl ?_
  refine n_arg (pc := 210) E hXs hbl hbA hL (i := i) 1 rfl rfl (by omega) dL_law_210 dL_law_211 dL_law_212 dL_law_213 dL_law_214 ?_
  refine n_callG (pc := 215) (np := 1) (As := [gI (xs (i + 1)).toInt]) (st := [gI ((f_X8_count (xs (i + 1)).toInt sx), sx).1]) (q0 := 0) (σ := t) (wr := wdX a cI cJ cS cT ((f_X8_count (xs (i + 1)).toInt sx), sx).2) E (c_X9_count l D b cI cJ cS cT t (xs (i + 1)).toInt (i_rg _) ) (hwdM b cI cJ) hRM rfl rfl wn_1016 wn_11 wn_1013 wn_1014 wn_1015 (by decide +kernel) ⟨Nat.le_of_ble_eq_true rfl, Nat.le_of_ble_eq_true rfl⟩ ⟨Nat.le_of_ble_eq_true rfl, Nat.le_of_ble_eq_true rfl⟩ rfl (Nat.le_of_ble_eq_true rfl) lqC lqD (lqC_ a b cI cJ cS cT ((f_X8_count (xs (i + 1)).toInt sx), sx).2 t) (lqD_ a b cI cJ cS cT ((f_X8_count (xs (i + 1)).toInt sx), sx).2 t) lqCn lqDn lqCD dL_law_215 (fun _ _ => ?_)
  refine n_st (st' := [gI ((f_X9_count (xs (i + 1)).toInt t), t).1, gI ((f_X8_count (xs (i + 1)).toInt sx), sx).1]) rfl ?_
  exact n_eq_t (pc := 218) (tgt := 1487) E dL_law_218 (by decide) q.1 (kk _ _ q.2)
set_option maxRecDepth 100000 in
set_option maxHeartbeats 4000000 in
theorem lq_set {D : va_G} {a b : Nat → Nat} {cI cJ cS cT : ClassId} {A : Nat → Prop} {p : Program} {l : Launch} {e : Env} {s : State} {m : MethodId} {args : Array Value} {below : List Frame} {meth : Method} {c : Code} {QQ : State → Prop} {bs L : Nat} {xs : Nat → Int32} {adK adV : Nat → Nat} {kA : Nat} (E : nE D (gT cI cJ cS cT) A p s m args meth c cL_law 4 RL ret meth.name) (HX : XS adK adV kA A s) (hXs : va_X bs L xs s s.heap) (hbl : bs < s.heap.size) (hbA : ¬ A bs) (hL : L ≤ 3584) {i : Nat} (hi : i + 7 ≤ L) {sx t : gMem} (hI : INW sx t) (kk : ∀ sx' t' : gMem, INW sx' t' → nK D A p l e room_1 s m args below meth c 4 QQ (wdX a cI cJ cS cT sx' ++ wdM b cI cJ t') 67 4894 1487 (lqV i a b bs) []) : nK D A p l e room_1 s m args below meth c 4 QQ (wdX a cI cJ cS cT sx ++ wdM b cI cJ t) 67 4894 223 (lqV i a b bs) [] := by
  obtain ⟨⟨-, ⟨⟨hRX, -, -, -, -, -, hGP, hST, hEN, hRE, hKF, hKC, hKT⟩, -, -, -, -, -, -, -, -, -, -, -, -, -, -, -, -, -, -, -, -, -⟩, ⟨⟨hRM, -, -, -, -⟩, -, -, -, -, -, -, -, -, -⟩, -, -, -⟩, -⟩ := id hI
  have q := EW_set hI (i_rg (xs (i + 1))) (i_rg (xs (i + 2)))
  refine n_aload (pc := 223) E 1 dL_law_223 rfl rfl ?_
  refine n_arg (pc := 224) E hXs hbl hbA hL (i := i) 1 rfl rfl (by omega) dL_law_224 dL_law_225 dL_law_226 dL_law_227 dL_law_228 ?_
  refine n_arg (pc := 229) E hXs hbl hbA hL (i := i) 2 rfl rfl (by omega) dL_law_229 dL_law_230 dL_law_231 dL_law_232 dL_law_233 ?_
  refine n_callG (pc := 234) (np := 2) (As := [gI (xs (i + 1)).toInt, gI (xs (i + 2)).toInt]) (st := []) (q0 := 0) (σ := sx) (wr := wdM b cI cJ t) E (c_X8_set l D a cI cJ cS cT sx (xs (i + 1)).toInt (xs (i + 2)).toInt (i_rg _) (i_rg _) hGP hST hEN hRE hKF hKC hKT) (hwdX a cI cJ cS cT) hRX rfl rfl wn_307 wn_1 wn_304 wn_305 wn_306 (by decide +kernel) ⟨Nat.le_of_ble_eq_true rfl, Nat.le_of_ble_eq_true rfl⟩ ⟨Nat.le_of_ble_eq_true rfl, Nat.le_of_ble_eq_true rfl⟩ rfl (Nat.le_of_ble_eq_true rfl) lqA lqB (lqA_ a b cI cJ cS cT sx t) (lqB_ a b cI cJ cS cT sx t) lqAn lqBn lqAB dL_law_234 (fun _ _ => ?_)
  refine n_st (st' := [gI (f_X8_set (xs (i + 1)).toInt (xs (i + 2)).toInt sx).1]) rfl ?_
  refine n_aload (pc := 237) E 2 dL_law_237 rfl rfl ?_
  refine n_arg (pc := 238) E hXs hbl hbA hL (i := i) 1 rfl rfl (by omega) dL_law_238 dL_law_239 dL_law_240 dL_law_241 dL_law_242 ?_
  refine n_arg (pc := 243) E hXs hbl hbA hL (i := i) 2 rfl rfl (by omega) dL_law_243 dL_law_244 dL_law_245 dL_law_246 dL_law_247 ?_
  refine n_callG (pc := 248) (np := 2) (As := [gI (xs (i + 1)).toInt, gI (xs (i + 2)).toInt]) (st := [gI (f_X8_set (xs (i + 1)).toInt (xs (i + 2)).toInt sx).1]) (q0 := 0) (σ := t) (wr := wdX a cI cJ cS cT (f_X8_set (xs (i + 1)).toInt (xs (i + 2)).toInt sx).2) E (c_X9_set l D b cI cJ cS cT t (xs (i + 1)).toInt (xs (i + 2)).toInt (i_rg _) (i_rg _) ) (hwdM b cI cJ) hRM rfl rfl wn_1020 wn_11 wn_1017 wn_1018 wn_1019 (by decide +kernel) ⟨Nat.le_of_ble_eq_true rfl, Nat.le_of_ble_eq_true rfl⟩ ⟨Nat.le_of_ble_eq_true rfl, Nat.le_of_ble_eq_true rfl⟩ rfl (Nat.le_of_ble_eq_true rfl) lqC lqD (lqC_ a b cI cJ cS cT (f_X8_set (xs (i + 1)).toInt (xs (i + 2)).toInt sx).2 t) (lqD_ a b cI cJ cS cT (f_X8_set (xs (i + 1)).toInt (xs (i + 2)).toInt sx).2 t) lqCn lqDn lqCD dL_law_248 (fun _ _ => ?_)
  refine n_st (st' := [gI (f_X9_set (xs (i + 1)).toInt (xs (i + 2)).toInt t).1, gI (f_X8_set (xs (i + 1)).toInt (xs (i + 2)).toInt sx).1]) rfl ?_
  exact n_eq_t (pc := 251) (tgt := 1487) E dL_law_251 (by decide) q.1 (kk _ _ q.2)
set_option maxRecDepth 100000 in
set_option maxHeartbeats 4000000 in
theorem lq_feed {D : va_G} {a b : Nat → Nat} {cI cJ cS cT : ClassId} {A : Nat → Prop} {p : Program} {l : Launch} {e : Env} {s : State} {m : MethodId} {args : Array Value} {below : List Frame} {meth : Method} {c : Code} {QQ : State → Prop} {bs L : Nat} {xs : Nat → Int32} {adK adV : Nat → Nat} {kA : Nat} (E : nE D (gT cI cJ cS cT) A p s m args meth c cL_law 4 RL ret meth.name) (HX : XS adK adV kA A s) (hXs : va_X bs L xs s s.heap) (hbl : bs < s.heap.size) (hbA : ¬ A bs) (hL : L ≤ 3584) {i : Nat} (hi : i + 7 ≤ L) {sx t : gMem} (hI : INW sx t) (kk : ∀ sx' t' : gMem, INW sx' t' → nK D A p l e room_1 s m args below meth c 4 QQ (wdX a cI cJ cS cT sx' ++ wdM b cI cJ t') 67 4894 1487 (lqV i a b bs) []) : nK D A p l e room_1 s m args below meth c 4 QQ (wdX a cI cJ cS cT sx ++ wdM b cI cJ t) 67 4894 256 (lqV i a b bs) [] := by
  obtain ⟨⟨-, ⟨⟨hRX, -, -, -, -, -, -, -, -, -, -, -, -⟩, -, -, -, -, -, -, -, -, -, -, -, -, -, -, -, -, -, hRS, -, -, -⟩, ⟨⟨hRM, -, -, -, -⟩, -, -, -, -, -, -, -, -, hTP⟩, -, -, -⟩, -⟩ := id hI
  have q := EW_feed hI (i_rg (xs (i + 1))) (i_rg (xs (i + 2))) (i_rg (xs (i + 3))) (i_rg (xs (i + 4))) (i_rg (xs (i + 5))) (i_rg (xs (i + 6)))
  refine n_aload (pc := 256) E 1 dL_law_256 rfl rfl ?_
  refine n_arg (pc := 257) E hXs hbl hbA hL (i := i) 1 rfl rfl (by omega) dL_law_257 dL_law_258 dL_law_259 dL_law_260 dL_law_261 ?_
  refine n_arg (pc := 262) E hXs hbl hbA hL (i := i) 2 rfl rfl (by omega) dL_law_262 dL_law_263 dL_law_264 dL_law_265 dL_law_266 ?_
  refine n_arg (pc := 267) E hXs hbl hbA hL (i := i) 3 rfl rfl (by omega) dL_law_267 dL_law_268 dL_law_269 dL_law_270 dL_law_271 ?_
  refine n_arg (pc := 272) E hXs hbl hbA hL (i := i) 4 rfl rfl (by omega) dL_law_272 dL_law_273 dL_law_274 dL_law_275 dL_law_276 ?_
  refine n_arg (pc := 277) E hXs hbl hbA hL (i := i) 5 rfl rfl (by omega) dL_law_277 dL_law_278 dL_law_279 dL_law_280 dL_law_281 ?_
  refine n_arg6 (pc := 282) E hXs hbl hbA hL (i := i) rfl rfl (by omega) dL_law_282 dL_law_283 dL_law_284 dL_law_286 dL_law_287 ?_
  refine n_callG (pc := 288) (np := 6) (As := [gI (xs (i + 1)).toInt, gI (xs (i + 2)).toInt, gI (xs (i + 3)).toInt, gI (xs (i + 4)).toInt, gI (xs (i + 5)).toInt, gI (xs (i + 6)).toInt]) (st := []) (q0 := 0) (σ := sx) (wr := wdM b cI cJ t) E (c_X8_feed l D a cI cJ cS cT sx (xs (i + 1)).toInt (xs (i + 2)).toInt (xs (i + 3)).toInt (xs (i + 4)).toInt (xs (i + 5)).toInt (xs (i + 6)).toInt (i_rg _) (i_rg _) (i_rg _) (i_rg _) (i_rg _) (i_rg _) hRS) (hwdX a cI cJ cS cT) hRX rfl rfl wn_317 wn_1 wn_314 wn_315 wn_316 (by decide +kernel) ⟨Nat.le_of_ble_eq_true rfl, Nat.le_of_ble_eq_true rfl⟩ ⟨Nat.le_of_ble_eq_true rfl, Nat.le_of_ble_eq_true rfl⟩ rfl (Nat.le_of_ble_eq_true rfl) lqA lqB (lqA_ a b cI cJ cS cT sx t) (lqB_ a b cI cJ cS cT sx t) lqAn lqBn lqAB dL_law_288 (fun _ _ => ?_)
  refine n_st (st' := [gI (f_X8_feed (xs (i + 1)).toInt (xs (i + 2)).toInt (xs (i + 3)).toInt (xs (i + 4)).toInt (xs (i + 5)).toInt (xs (i + 6)).toInt sx).1]) rfl ?_
  refine n_aload (pc := 291) E 2 dL_law_291 rfl rfl ?_
  refine n_arg (pc := 292) E hXs hbl hbA hL (i := i) 1 rfl rfl (by omega) dL_law_292 dL_law_293 dL_law_294 dL_law_295 dL_law_296 ?_
  refine n_arg (pc := 297) E hXs hbl hbA hL (i := i) 2 rfl rfl (by omega) dL_law_297 dL_law_298 dL_law_299 dL_law_300 dL_law_301 ?_
  refine n_arg (pc := 302) E hXs hbl hbA hL (i := i) 3 rfl rfl (by omega) dL_law_302 dL_law_303 dL_law_304 dL_law_305 dL_law_306 ?_
  refine n_arg (pc := 307) E hXs hbl hbA hL (i := i) 4 rfl rfl (by omega) dL_law_307 dL_law_308 dL_law_309 dL_law_310 dL_law_311 ?_
  refine n_arg (pc := 312) E hXs hbl hbA hL (i := i) 5 rfl rfl (by omega) dL_law_312 dL_law_313 dL_law_314 dL_law_315 dL_law_316 ?_
  refine n_arg6 (pc := 317) E hXs hbl hbA hL (i := i) rfl rfl (by omega) dL_law_317 dL_law_318 dL_law_319 dL_law_321 dL_law_322 ?_
  refine n_callG (pc := 323) (np := 6) (As := [gI (xs (i + 1)).toInt, gI (xs (i + 2)).toInt, gI (xs (i + 3)).toInt, gI (xs (i + 4)).toInt, gI (xs (i + 5)).toInt, gI (xs (i + 6)).toInt]) (st := [gI (f_X8_feed (xs (i + 1)).toInt (xs (i + 2)).toInt (xs (i + 3)).toInt (xs (i + 4)).toInt (xs (i + 5)).toInt (xs (i + 6)).toInt sx).1]) (q0 := 0) (σ := t) (wr := wdX a cI cJ cS cT (f_X8_feed (xs (i + 1)).toInt (xs (i + 2)).toInt (xs (i + 3)).toInt (xs (i + 4)).toInt (xs (i + 5)).toInt (xs (i + 6)).toInt sx).2) E (c_X9_feed l D b cI cJ cS cT t (xs (i + 1)).toInt (xs (i + 2)).toInt (xs (i + 3)).toInt (xs (i + 4)).toInt (xs (i + 5)).toInt (xs (i + 6)).toInt (i_rg _) (i_rg _) (i_rg _) (i_rg _) (i_rg _) (i_rg _) hTP) (hwdM b cI cJ) hRM rfl rfl wn_1025 wn_11 wn_1022 wn_1023 wn_1024 (by decide +kernel) ⟨Nat.le_of_ble_eq_true rfl, Nat.le_of_ble_eq_true rfl⟩ ⟨Nat.le_of_ble_eq_true rfl, Nat.le_of_ble_eq_true rfl⟩ rfl (Nat.le_of_ble_eq_true rfl) lqC lqD (lqC_ a b cI cJ cS cT (f_X8_feed (xs (i + 1)).toInt (xs (i + 2)).toInt (xs (i + 3)).toInt (xs (i + 4)).toInt (xs (i + 5)).toInt (xs (i + 6)).toInt sx).2 t) (lqD_ a b cI cJ cS cT (f_X8_feed (xs (i + 1)).toInt (xs (i + 2)).toInt (xs (i + 3)).toInt (xs (i + 4)).toInt (xs (i + 5)).toInt (xs (i + 6)).toInt sx).2 t) lqCn lqDn lqCD dL_law_323 (fun _ _ => ?_)
  refine n_st (st' := [gI (f_X9_feed (xs (i + 1)).toInt (xs (i + 2)).toInt (xs (i + 3)).toInt (xs (i + 4)).toInt (xs (i + 5)).toInt (xs (i + 6)).toInt t).1, gI (f_X8_feed (xs (i + 1)).toInt (xs (i + 2)).toInt (xs (i + 3)).toInt (xs (i + 4)).toInt (xs (i + 5)).toInt (xs (i + 6)).toInt sx).1]) rfl ?_
  exact n_eq_t (pc := 326) (tgt := 1487) E dL_law_326 (by decide) q.1 (kk _ _ q.2)
set_option maxRecDepth 100000 in
set_option maxHeartbeats 4000000 in
theorem lq_text {D : va_G} {a b : Nat → Nat} {cI cJ cS cT : ClassId} {A : Nat → Prop} {p : Program} {l : Launch} {e : Env} {s : State} {m : MethodId} {args : Array Value} {below : List Frame} {meth : Method} {c : Code} {QQ : State → Prop} {bs L : Nat} {xs : Nat → Int32} {adK adV : Nat → Nat} {kA : Nat} (E : nE D (gT cI cJ cS cT) A p s m args meth c cL_law 4 RL ret meth.name) (HX : XS adK adV kA A s) (hXs : va_X bs L xs s s.heap) (hbl : bs < s.heap.size) (hbA : ¬ A bs) (hL : L ≤ 3584) {i : Nat} (hi : i + 7 ≤ L) {sx t : gMem} (hI : INW sx t) (kk : ∀ sx' t' : gMem, INW sx' t' → nK D A p l e room_1 s m args below meth c 4 QQ (wdX a cI cJ cS cT sx' ++ wdM b cI cJ t') 67 4894 1487 (lqV i a b bs) []) : nK D A p l e room_1 s m args below meth c 4 QQ (wdX a cI cJ cS cT sx ++ wdM b cI cJ t) 67 4894 331 (lqV i a b bs) [] := by
  obtain ⟨⟨-, ⟨⟨hRX, hCD, hBG, -, -, -, -, -, -, -, -, -, -⟩, hMY, -, -, -, -, -, -, -, -, -, -, -, -, -, -, -, -, hRS, hRCO, hRBE, hTKW⟩, ⟨⟨hRM, hVS, -, -, -⟩, -, -, -, -, -, -, -, -, hTP⟩, -, -, -⟩, -⟩ := id hI
  have q := EW_text hI 
  refine n_aload (pc := 331) E 1 dL_law_331 rfl rfl ?_
  refine n_callGS (pc := 332) (np := 0) (As := []) (st := []) (q0 := 0) (σ := sx) (wr := wdM b cI cJ t) E HX (c_X8_text l D a cI cJ cS cT adK adV kA sx   hCD hBG hRCO hRBE hMY hRS hTKW) (hwdX a cI cJ cS cT) hRX rfl rfl wn_328 wn_1 wn_325 wn_326 wn_327 (by decide +kernel) ⟨Nat.le_of_ble_eq_true rfl, Nat.le_of_ble_eq_true rfl⟩ ⟨Nat.le_of_ble_eq_true rfl, Nat.le_of_ble_eq_true rfl⟩ rfl (Nat.le_of_ble_eq_true rfl) lqA lqB (lqA_ a b cI cJ cS cT sx t) (lqB_ a b cI cJ cS cT sx t) lqAn lqBn lqAB dL_law_332 (fun _ _ => ?_)
  refine n_st (st' := [gI (f_X8_text sx).1]) rfl ?_
  refine n_aload (pc := 335) E 2 dL_law_335 rfl rfl ?_
  refine n_callG (pc := 336) (np := 0) (As := []) (st := [gI (f_X8_text sx).1]) (q0 := 0) (σ := t) (wr := wdX a cI cJ cS cT (f_X8_text sx).2) E (c_X9_text l D b cI cJ cS cT t   hVS hTP) (hwdM b cI cJ) hRM rfl rfl wn_854 wn_11 wn_1029 wn_852 wn_853 (by decide +kernel) ⟨Nat.le_of_ble_eq_true rfl, Nat.le_of_ble_eq_true rfl⟩ ⟨Nat.le_of_ble_eq_true rfl, Nat.le_of_ble_eq_true rfl⟩ rfl (Nat.le_of_ble_eq_true rfl) lqC lqD (lqC_ a b cI cJ cS cT (f_X8_text sx).2 t) (lqD_ a b cI cJ cS cT (f_X8_text sx).2 t) lqCn lqDn lqCD dL_law_336 (fun _ _ => ?_)
  refine n_st (st' := [gI (f_X9_text t).1, gI (f_X8_text sx).1]) rfl ?_
  exact n_eq_t (pc := 339) (tgt := 1487) E dL_law_339 (by decide) q.1 (kk _ _ q.2)
set_option maxRecDepth 100000 in
set_option maxHeartbeats 4000000 in
theorem lq_force {D : va_G} {a b : Nat → Nat} {cI cJ cS cT : ClassId} {A : Nat → Prop} {p : Program} {l : Launch} {e : Env} {s : State} {m : MethodId} {args : Array Value} {below : List Frame} {meth : Method} {c : Code} {QQ : State → Prop} {bs L : Nat} {xs : Nat → Int32} {adK adV : Nat → Nat} {kA : Nat} (E : nE D (gT cI cJ cS cT) A p s m args meth c cL_law 4 RL ret meth.name) (HX : XS adK adV kA A s) (hXs : va_X bs L xs s s.heap) (hbl : bs < s.heap.size) (hbA : ¬ A bs) (hL : L ≤ 3584) {i : Nat} (hi : i + 7 ≤ L) {sx t : gMem} (hI : INW sx t) (kk : ∀ sx' t' : gMem, INW sx' t' → nK D A p l e room_1 s m args below meth c 4 QQ (wdX a cI cJ cS cT sx' ++ wdM b cI cJ t') 67 4894 1487 (lqV i a b bs) []) : nK D A p l e room_1 s m args below meth c 4 QQ (wdX a cI cJ cS cT sx ++ wdM b cI cJ t) 67 4894 344 (lqV i a b bs) [] := by
  obtain ⟨⟨-, ⟨⟨hRX, -, -, hLA, -, -, -, -, -, -, hKF, hKC, hKT⟩, hMY, -, -, -, -, -, -, -, -, -, -, -, -, -, -, -, -, -, -, -, -⟩, ⟨⟨hRM, hVS, -, -, -⟩, -, -, -, -, -, -, -, -, -⟩, -, -, -⟩, -⟩ := id hI
  have q := EW_force hI (i_rg (xs (i + 1)))
  refine n_aload (pc := 344) E 1 dL_law_344 rfl rfl ?_
  refine n_arg (pc := 345) E hXs hbl hbA hL (i := i) 1 rfl rfl (by omega) dL_law_345 dL_law_346 dL_law_347 dL_law_348 dL_law_349 ?_
  refine n_callG (pc := 350) (np := 1) (As := [gI (xs (i + 1)).toInt]) (st := []) (q0 := 0) (σ := sx) (wr := wdM b cI cJ t) E (c_X8_force l D a cI cJ cS cT sx (xs (i + 1)).toInt (i_rg _) hLA hMY hKF hKC hKT) (hwdX a cI cJ cS cT) hRX rfl rfl wn_472 wn_1 wn_469 wn_470 wn_471 (by decide +kernel) ⟨Nat.le_of_ble_eq_true rfl, Nat.le_of_ble_eq_true rfl⟩ ⟨Nat.le_of_ble_eq_true rfl, Nat.le_of_ble_eq_true rfl⟩ rfl (Nat.le_of_ble_eq_true rfl) lqA lqB (lqA_ a b cI cJ cS cT sx t) (lqB_ a b cI cJ cS cT sx t) lqAn lqBn lqAB dL_law_350 (fun _ _ => ?_)
  refine n_st (st' := [gI (f_X8_force (xs (i + 1)).toInt sx).1]) rfl ?_
  refine n_aload (pc := 353) E 2 dL_law_353 rfl rfl ?_
  refine n_arg (pc := 354) E hXs hbl hbA hL (i := i) 1 rfl rfl (by omega) dL_law_354 dL_law_355 dL_law_356 dL_law_357 dL_law_358 ?_
  refine n_callG (pc := 359) (np := 1) (As := [gI (xs (i + 1)).toInt]) (st := [gI (f_X8_force (xs (i + 1)).toInt sx).1]) (q0 := 0) (σ := t) (wr := wdX a cI cJ cS cT (f_X8_force (xs (i + 1)).toInt sx).2) E (c_X9_force l D b cI cJ cS cT t (xs (i + 1)).toInt (i_rg _) hVS) (hwdM b cI cJ) hRM rfl rfl wn_1033 wn_11 wn_1030 wn_1031 wn_1032 (by decide +kernel) ⟨Nat.le_of_ble_eq_true rfl, Nat.le_of_ble_eq_true rfl⟩ ⟨Nat.le_of_ble_eq_true rfl, Nat.le_of_ble_eq_true rfl⟩ rfl (Nat.le_of_ble_eq_true rfl) lqC lqD (lqC_ a b cI cJ cS cT (f_X8_force (xs (i + 1)).toInt sx).2 t) (lqD_ a b cI cJ cS cT (f_X8_force (xs (i + 1)).toInt sx).2 t) lqCn lqDn lqCD dL_law_359 (fun _ _ => ?_)
  refine n_st (st' := [gI (f_X9_force (xs (i + 1)).toInt t).1, gI (f_X8_force (xs (i + 1)).toInt sx).1]) rfl ?_
  exact n_eq_t (pc := 362) (tgt := 1487) E dL_law_362 (by decide) q.1 (kk _ _ q.2)
set_option maxRecDepth 100000 in
set_option maxHeartbeats 4000000 in
theorem lq_asks {D : va_G} {a b : Nat → Nat} {cI cJ cS cT : ClassId} {A : Nat → Prop} {p : Program} {l : Launch} {e : Env} {s : State} {m : MethodId} {args : Array Value} {below : List Frame} {meth : Method} {c : Code} {QQ : State → Prop} {bs L : Nat} {xs : Nat → Int32} {adK adV : Nat → Nat} {kA : Nat} (E : nE D (gT cI cJ cS cT) A p s m args meth c cL_law 4 RL ret meth.name) (HX : XS adK adV kA A s) (hXs : va_X bs L xs s s.heap) (hbl : bs < s.heap.size) (hbA : ¬ A bs) (hL : L ≤ 3584) {i : Nat} (hi : i + 7 ≤ L) {sx t : gMem} (hI : INW sx t) (kk : ∀ sx' t' : gMem, INW sx' t' → nK D A p l e room_1 s m args below meth c 4 QQ (wdX a cI cJ cS cT sx' ++ wdM b cI cJ t') 67 4894 1487 (lqV i a b bs) []) : nK D A p l e room_1 s m args below meth c 4 QQ (wdX a cI cJ cS cT sx ++ wdM b cI cJ t) 67 4894 367 (lqV i a b bs) [] := by
  obtain ⟨⟨-, ⟨⟨hRX, hCD, hBG, hLA, -, -, -, -, -, -, -, -, -⟩, -, -, -, -, -, -, -, -, -, -, -, -, -, -, -, -, -, -, -, -, -⟩, ⟨⟨hRM, hVS, -, -, -⟩, -, -, -, -, -, -, -, -, -⟩, -, -, -⟩, -⟩ := id hI
  have q := EW_asks hI (i_rg (xs (i + 1))) (i_rg (xs (i + 2))) (i_rg (xs (i + 3)))
  refine n_aload (pc := 367) E 1 dL_law_367 rfl rfl ?_
  refine n_arg (pc := 368) E hXs hbl hbA hL (i := i) 1 rfl rfl (by omega) dL_law_368 dL_law_369 dL_law_370 dL_law_371 dL_law_372 ?_
  refine n_arg (pc := 373) E hXs hbl hbA hL (i := i) 2 rfl rfl (by omega) dL_law_373 dL_law_374 dL_law_375 dL_law_376 dL_law_377 ?_
  refine n_arg (pc := 378) E hXs hbl hbA hL (i := i) 3 rfl rfl (by omega) dL_law_378 dL_law_379 dL_law_380 dL_law_381 dL_law_382 ?_
  refine n_callG (pc := 383) (np := 3) (As := [gI (xs (i + 1)).toInt, gI (xs (i + 2)).toInt, gI (xs (i + 3)).toInt]) (st := []) (q0 := 0) (σ := sx) (wr := wdM b cI cJ t) E (c_X8_asks l D a cI cJ cS cT sx (xs (i + 1)).toInt (xs (i + 2)).toInt (xs (i + 3)).toInt (i_rg _) (i_rg _) (i_rg _) hCD hBG hLA) (hwdX a cI cJ cS cT) hRX rfl rfl wn_480 wn_1 wn_477 wn_478 wn_479 (by decide +kernel) ⟨Nat.le_of_ble_eq_true rfl, Nat.le_of_ble_eq_true rfl⟩ ⟨Nat.le_of_ble_eq_true rfl, Nat.le_of_ble_eq_true rfl⟩ rfl (Nat.le_of_ble_eq_true rfl) lqA lqB (lqA_ a b cI cJ cS cT sx t) (lqB_ a b cI cJ cS cT sx t) lqAn lqBn lqAB dL_law_383 (fun _ _ => ?_)
  refine n_st (st' := [gI (f_X8_asks (xs (i + 1)).toInt (xs (i + 2)).toInt (xs (i + 3)).toInt sx).1]) rfl ?_
  refine n_aload (pc := 386) E 2 dL_law_386 rfl rfl ?_
  refine n_arg (pc := 387) E hXs hbl hbA hL (i := i) 1 rfl rfl (by omega) dL_law_387 dL_law_388 dL_law_389 dL_law_390 dL_law_391 ?_
  refine n_arg (pc := 392) E hXs hbl hbA hL (i := i) 2 rfl rfl (by omega) dL_law_392 dL_law_393 dL_law_394 dL_law_395 dL_law_396 ?_
  refine n_arg (pc := 397) E hXs hbl hbA hL (i := i) 3 rfl rfl (by omega) dL_law_397 dL_law_398 dL_law_399 dL_law_400 dL_law_401 ?_
  refine n_callG (pc := 402) (np := 3) (As := [gI (xs (i + 1)).toInt, gI (xs (i + 2)).toInt, gI (xs (i + 3)).toInt]) (st := [gI (f_X8_asks (xs (i + 1)).toInt (xs (i + 2)).toInt (xs (i + 3)).toInt sx).1]) (q0 := 0) (σ := t) (wr := wdX a cI cJ cS cT (f_X8_asks (xs (i + 1)).toInt (xs (i + 2)).toInt (xs (i + 3)).toInt sx).2) E (c_X9_asks l D b cI cJ cS cT t (xs (i + 1)).toInt (xs (i + 2)).toInt (xs (i + 3)).toInt (i_rg _) (i_rg _) (i_rg _) hVS) (hwdM b cI cJ) hRM rfl rfl wn_1037 wn_11 wn_1034 wn_1035 wn_1036 (by decide +kernel) ⟨Nat.le_of_ble_eq_true rfl, Nat.le_of_ble_eq_true rfl⟩ ⟨Nat.le_of_ble_eq_true rfl, Nat.le_of_ble_eq_true rfl⟩ rfl (Nat.le_of_ble_eq_true rfl) lqC lqD (lqC_ a b cI cJ cS cT (f_X8_asks (xs (i + 1)).toInt (xs (i + 2)).toInt (xs (i + 3)).toInt sx).2 t) (lqD_ a b cI cJ cS cT (f_X8_asks (xs (i + 1)).toInt (xs (i + 2)).toInt (xs (i + 3)).toInt sx).2 t) lqCn lqDn lqCD dL_law_402 (fun _ _ => ?_)
  refine n_st (st' := [gI (f_X9_asks (xs (i + 1)).toInt (xs (i + 2)).toInt (xs (i + 3)).toInt t).1, gI (f_X8_asks (xs (i + 1)).toInt (xs (i + 2)).toInt (xs (i + 3)).toInt sx).1]) rfl ?_
  exact n_eq_t (pc := 405) (tgt := 1487) E dL_law_405 (by decide) q.1 (kk _ _ q.2)
set_option maxRecDepth 100000 in
set_option maxHeartbeats 4000000 in
theorem lq_lay {D : va_G} {a b : Nat → Nat} {cI cJ cS cT : ClassId} {A : Nat → Prop} {p : Program} {l : Launch} {e : Env} {s : State} {m : MethodId} {args : Array Value} {below : List Frame} {meth : Method} {c : Code} {QQ : State → Prop} {bs L : Nat} {xs : Nat → Int32} {adK adV : Nat → Nat} {kA : Nat} (E : nE D (gT cI cJ cS cT) A p s m args meth c cL_law 4 RL ret meth.name) (HX : XS adK adV kA A s) (hXs : va_X bs L xs s s.heap) (hbl : bs < s.heap.size) (hbA : ¬ A bs) (hL : L ≤ 3584) {i : Nat} (hi : i + 7 ≤ L) {sx t : gMem} (hI : INW sx t) (kk : ∀ sx' t' : gMem, INW sx' t' → nK D A p l e room_1 s m args below meth c 4 QQ (wdX a cI cJ cS cT sx' ++ wdM b cI cJ t') 67 4894 1487 (lqV i a b bs) []) : nK D A p l e room_1 s m args below meth c 4 QQ (wdX a cI cJ cS cT sx ++ wdM b cI cJ t) 67 4894 410 (lqV i a b bs) [] := by
  obtain ⟨⟨-, ⟨⟨hRX, -, -, -, hKNx, hMOx, -, -, -, -, hKF, hKC, hKT⟩, -, -, -, -, -, -, -, -, -, -, -, -, -, -, -, -, -, -, -, -, -⟩, ⟨⟨hRM, -, hKN, hMO, -⟩, -, -, -, -, -, -, -, -, -⟩, -, -, -⟩, -⟩ := id hI
  have q := EW_lay hI (i_rg (xs (i + 1))) (i_rg (xs (i + 2))) (i_rg (xs (i + 3)))
  refine n_aload (pc := 410) E 1 dL_law_410 rfl rfl ?_
  refine n_arg (pc := 411) E hXs hbl hbA hL (i := i) 1 rfl rfl (by omega) dL_law_411 dL_law_412 dL_law_413 dL_law_414 dL_law_415 ?_
  refine n_arg (pc := 416) E hXs hbl hbA hL (i := i) 2 rfl rfl (by omega) dL_law_416 dL_law_417 dL_law_418 dL_law_419 dL_law_420 ?_
  refine n_arg (pc := 421) E hXs hbl hbA hL (i := i) 3 rfl rfl (by omega) dL_law_421 dL_law_422 dL_law_423 dL_law_424 dL_law_425 ?_
  refine n_callG (pc := 426) (np := 3) (As := [gI (xs (i + 1)).toInt, gI (xs (i + 2)).toInt, gI (xs (i + 3)).toInt]) (st := []) (q0 := 0) (σ := sx) (wr := wdM b cI cJ t) E (c_X8_lay l D a cI cJ cS cT sx (xs (i + 1)).toInt (xs (i + 2)).toInt (xs (i + 3)).toInt (i_rg _) (i_rg _) (i_rg _) hKNx hMOx hKF hKC hKT) (hwdX a cI cJ cS cT) hRX rfl rfl wn_501 wn_1 wn_498 wn_499 wn_500 (by decide +kernel) ⟨Nat.le_of_ble_eq_true rfl, Nat.le_of_ble_eq_true rfl⟩ ⟨Nat.le_of_ble_eq_true rfl, Nat.le_of_ble_eq_true rfl⟩ rfl (Nat.le_of_ble_eq_true rfl) lqA lqB (lqA_ a b cI cJ cS cT sx t) (lqB_ a b cI cJ cS cT sx t) lqAn lqBn lqAB dL_law_426 (fun _ _ => ?_)
  refine n_st (st' := [gI (f_X8_lay (xs (i + 1)).toInt (xs (i + 2)).toInt (xs (i + 3)).toInt sx).1]) rfl ?_
  refine n_aload (pc := 429) E 2 dL_law_429 rfl rfl ?_
  refine n_arg (pc := 430) E hXs hbl hbA hL (i := i) 1 rfl rfl (by omega) dL_law_430 dL_law_431 dL_law_432 dL_law_433 dL_law_434 ?_
  refine n_arg (pc := 435) E hXs hbl hbA hL (i := i) 2 rfl rfl (by omega) dL_law_435 dL_law_436 dL_law_437 dL_law_438 dL_law_439 ?_
  refine n_arg (pc := 440) E hXs hbl hbA hL (i := i) 3 rfl rfl (by omega) dL_law_440 dL_law_441 dL_law_442 dL_law_443 dL_law_444 ?_
  refine n_callG (pc := 445) (np := 3) (As := [gI (xs (i + 1)).toInt, gI (xs (i + 2)).toInt, gI (xs (i + 3)).toInt]) (st := [gI (f_X8_lay (xs (i + 1)).toInt (xs (i + 2)).toInt (xs (i + 3)).toInt sx).1]) (q0 := 0) (σ := t) (wr := wdX a cI cJ cS cT (f_X8_lay (xs (i + 1)).toInt (xs (i + 2)).toInt (xs (i + 3)).toInt sx).2) E (c_X9_lay l D b cI cJ cS cT t (xs (i + 1)).toInt (xs (i + 2)).toInt (xs (i + 3)).toInt (i_rg _) (i_rg _) (i_rg _) hKN hMO) (hwdM b cI cJ) hRM rfl rfl wn_1061 wn_11 wn_1058 wn_1059 wn_1060 (by decide +kernel) ⟨Nat.le_of_ble_eq_true rfl, Nat.le_of_ble_eq_true rfl⟩ ⟨Nat.le_of_ble_eq_true rfl, Nat.le_of_ble_eq_true rfl⟩ rfl (Nat.le_of_ble_eq_true rfl) lqC lqD (lqC_ a b cI cJ cS cT (f_X8_lay (xs (i + 1)).toInt (xs (i + 2)).toInt (xs (i + 3)).toInt sx).2 t) (lqD_ a b cI cJ cS cT (f_X8_lay (xs (i + 1)).toInt (xs (i + 2)).toInt (xs (i + 3)).toInt sx).2 t) lqCn lqDn lqCD dL_law_445 (fun _ _ => ?_)
  refine n_st (st' := [gI (f_X9_lay (xs (i + 1)).toInt (xs (i + 2)).toInt (xs (i + 3)).toInt t).1, gI (f_X8_lay (xs (i + 1)).toInt (xs (i + 2)).toInt (xs (i + 3)).toInt sx).1]) rfl ?_
  exact n_eq_t (pc := 448) (tgt := 1487) E dL_law_448 (by decide) q.1 (kk _ _ q.2)
set_option maxRecDepth 100000 in
set_option maxHeartbeats 4000000 in
theorem lq_told {D : va_G} {a b : Nat → Nat} {cI cJ cS cT : ClassId} {A : Nat → Prop} {p : Program} {l : Launch} {e : Env} {s : State} {m : MethodId} {args : Array Value} {below : List Frame} {meth : Method} {c : Code} {QQ : State → Prop} {bs L : Nat} {xs : Nat → Int32} {adK adV : Nat → Nat} {kA : Nat} (E : nE D (gT cI cJ cS cT) A p s m args meth c cL_law 4 RL ret meth.name) (HX : XS adK adV kA A s) (hXs : va_X bs L xs s s.heap) (hbl : bs < s.heap.size) (hbA : ¬ A bs) (hL : L ≤ 3584) {i : Nat} (hi : i + 7 ≤ L) {sx t : gMem} (hI : INW sx t) (kk : ∀ sx' t' : gMem, INW sx' t' → nK D A p l e room_1 s m args below meth c 4 QQ (wdX a cI cJ cS cT sx' ++ wdM b cI cJ t') 67 4894 1487 (lqV i a b bs) []) : nK D A p l e room_1 s m args below meth c 4 QQ (wdX a cI cJ cS cT sx ++ wdM b cI cJ t) 67 4894 453 (lqV i a b bs) [] := by
  obtain ⟨⟨-, ⟨⟨hRX, hCD, hBG, hLA, hKNx, hMOx, -, -, -, -, hKF, hKC, hKT⟩, -, -, -, -, -, -, -, -, -, -, -, -, -, -, -, -, -, -, -, -, -⟩, ⟨⟨hRM, hVS, hKN, hMO, -⟩, -, -, -, -, -, -, -, -, -⟩, -, -, -⟩, -⟩ := id hI
  have q := EW_told hI (i_rg (xs (i + 1))) (i_rg (xs (i + 2)))
  refine n_aload (pc := 453) E 1 dL_law_453 rfl rfl ?_
  refine n_arg (pc := 454) E hXs hbl hbA hL (i := i) 1 rfl rfl (by omega) dL_law_454 dL_law_455 dL_law_456 dL_law_457 dL_law_458 ?_
  refine n_arg (pc := 459) E hXs hbl hbA hL (i := i) 2 rfl rfl (by omega) dL_law_459 dL_law_460 dL_law_461 dL_law_462 dL_law_463 ?_
  refine n_callG (pc := 464) (np := 2) (As := [gI (xs (i + 1)).toInt, gI (xs (i + 2)).toInt]) (st := []) (q0 := 0) (σ := sx) (wr := wdM b cI cJ t) E (c_X8_told l D a cI cJ cS cT sx (xs (i + 1)).toInt (xs (i + 2)).toInt (i_rg _) (i_rg _) hCD hBG hLA hMOx hKNx hKF hKC hKT) (hwdX a cI cJ cS cT) hRX rfl rfl wn_509 wn_1 wn_506 wn_507 wn_508 (by decide +kernel) ⟨Nat.le_of_ble_eq_true rfl, Nat.le_of_ble_eq_true rfl⟩ ⟨Nat.le_of_ble_eq_true rfl, Nat.le_of_ble_eq_true rfl⟩ rfl (Nat.le_of_ble_eq_true rfl) lqA lqB (lqA_ a b cI cJ cS cT sx t) (lqB_ a b cI cJ cS cT sx t) lqAn lqBn lqAB dL_law_464 (fun _ _ => ?_)
  refine n_st (st' := [gI (f_X8_told (xs (i + 1)).toInt (xs (i + 2)).toInt sx).1]) rfl ?_
  refine n_aload (pc := 467) E 2 dL_law_467 rfl rfl ?_
  refine n_arg (pc := 468) E hXs hbl hbA hL (i := i) 1 rfl rfl (by omega) dL_law_468 dL_law_469 dL_law_470 dL_law_471 dL_law_472 ?_
  refine n_arg (pc := 473) E hXs hbl hbA hL (i := i) 2 rfl rfl (by omega) dL_law_473 dL_law_474 dL_law_475 dL_law_476 dL_law_477 ?_
  refine n_callG (pc := 478) (np := 2) (As := [gI (xs (i + 1)).toInt, gI (xs (i + 2)).toInt]) (st := [gI (f_X8_told (xs (i + 1)).toInt (xs (i + 2)).toInt sx).1]) (q0 := 0) (σ := t) (wr := wdX a cI cJ cS cT (f_X8_told (xs (i + 1)).toInt (xs (i + 2)).toInt sx).2) E (c_X9_told l D b cI cJ cS cT t (xs (i + 1)).toInt (xs (i + 2)).toInt (i_rg _) (i_rg _) hVS hKN hMO) (hwdM b cI cJ) hRM rfl rfl wn_1065 wn_11 wn_1062 wn_1063 wn_1064 (by decide +kernel) ⟨Nat.le_of_ble_eq_true rfl, Nat.le_of_ble_eq_true rfl⟩ ⟨Nat.le_of_ble_eq_true rfl, Nat.le_of_ble_eq_true rfl⟩ rfl (Nat.le_of_ble_eq_true rfl) lqC lqD (lqC_ a b cI cJ cS cT (f_X8_told (xs (i + 1)).toInt (xs (i + 2)).toInt sx).2 t) (lqD_ a b cI cJ cS cT (f_X8_told (xs (i + 1)).toInt (xs (i + 2)).toInt sx).2 t) lqCn lqDn lqCD dL_law_478 (fun _ _ => ?_)
  refine n_st (st' := [gI (f_X9_told (xs (i + 1)).toInt (xs (i + 2)).toInt t).1, gI (f_X8_told (xs (i + 1)).toInt (xs (i + 2)).toInt sx).1]) rfl ?_
  exact n_eq_t (pc := 481) (tgt := 1487) E dL_law_481 (by decide) q.1 (kk _ _ q.2)
set_option maxRecDepth 100000 in
set_option maxHeartbeats 4000000 in
theorem lq_stretch {D : va_G} {a b : Nat → Nat} {cI cJ cS cT : ClassId} {A : Nat → Prop} {p : Program} {l : Launch} {e : Env} {s : State} {m : MethodId} {args : Array Value} {below : List Frame} {meth : Method} {c : Code} {QQ : State → Prop} {bs L : Nat} {xs : Nat → Int32} {adK adV : Nat → Nat} {kA : Nat} (E : nE D (gT cI cJ cS cT) A p s m args meth c cL_law 4 RL ret meth.name) (HX : XS adK adV kA A s) (hXs : va_X bs L xs s s.heap) (hbl : bs < s.heap.size) (hbA : ¬ A bs) (hL : L ≤ 3584) {i : Nat} (hi : i + 7 ≤ L) {sx t : gMem} (hI : INW sx t) (kk : ∀ sx' t' : gMem, INW sx' t' → nK D A p l e room_1 s m args below meth c 4 QQ (wdX a cI cJ cS cT sx' ++ wdM b cI cJ t') 67 4894 1487 (lqV i a b bs) []) : nK D A p l e room_1 s m args below meth c 4 QQ (wdX a cI cJ cS cT sx ++ wdM b cI cJ t) 67 4894 486 (lqV i a b bs) [] := by
  obtain ⟨⟨-, ⟨⟨hRX, -, -, -, -, -, -, -, -, -, -, -, -⟩, -, -, -, -, -, -, -, -, -, -, -, -, -, -, -, -, -, -, -, -, -⟩, ⟨⟨hRM, -, -, -, -⟩, hOR, hBE, hFI, -, -, -, -, -, -⟩, -, -, -⟩, -⟩ := id hI
  have q := EW_stretch hI (i_rg (xs (i + 1))) (i_rg (xs (i + 2)))
  refine n_aload (pc := 486) E 1 dL_law_486 rfl rfl ?_
  refine n_arg (pc := 487) E hXs hbl hbA hL (i := i) 1 rfl rfl (by omega) dL_law_487 dL_law_488 dL_law_489 dL_law_490 dL_law_491 ?_
  refine n_arg (pc := 492) E hXs hbl hbA hL (i := i) 2 rfl rfl (by omega) dL_law_492 dL_law_493 dL_law_494 dL_law_495 dL_law_496 ?_
  refine n_callG (pc := 497) (np := 2) (As := [gI (xs (i + 1)).toInt, gI (xs (i + 2)).toInt]) (st := []) (q0 := 0) (σ := sx) (wr := wdM b cI cJ t) E (c_X8_stretch l D a cI cJ cS cT sx (xs (i + 1)).toInt (xs (i + 2)).toInt (i_rg _) (i_rg _) ) (hwdX a cI cJ cS cT) hRX rfl rfl wn_541 wn_1 wn_538 wn_539 wn_540 (by decide +kernel) ⟨Nat.le_of_ble_eq_true rfl, Nat.le_of_ble_eq_true rfl⟩ ⟨Nat.le_of_ble_eq_true rfl, Nat.le_of_ble_eq_true rfl⟩ rfl (Nat.le_of_ble_eq_true rfl) lqA lqB (lqA_ a b cI cJ cS cT sx t) (lqB_ a b cI cJ cS cT sx t) lqAn lqBn lqAB dL_law_497 (fun _ _ => ?_)
  refine n_st (st' := [gI (f_X8_stretch (xs (i + 1)).toInt (xs (i + 2)).toInt sx).1]) rfl ?_
  refine n_aload (pc := 500) E 2 dL_law_500 rfl rfl ?_
  refine n_arg (pc := 501) E hXs hbl hbA hL (i := i) 1 rfl rfl (by omega) dL_law_501 dL_law_502 dL_law_503 dL_law_504 dL_law_505 ?_
  refine n_arg (pc := 506) E hXs hbl hbA hL (i := i) 2 rfl rfl (by omega) dL_law_506 dL_law_507 dL_law_508 dL_law_509 dL_law_510 ?_
  refine n_callG (pc := 511) (np := 2) (As := [gI (xs (i + 1)).toInt, gI (xs (i + 2)).toInt]) (st := [gI (f_X8_stretch (xs (i + 1)).toInt (xs (i + 2)).toInt sx).1]) (q0 := 0) (σ := t) (wr := wdX a cI cJ cS cT (f_X8_stretch (xs (i + 1)).toInt (xs (i + 2)).toInt sx).2) E (c_X9_stretch l D b cI cJ cS cT t (xs (i + 1)).toInt (xs (i + 2)).toInt (i_rg _) (i_rg _) hOR hBE hFI) (hwdM b cI cJ) hRM rfl rfl wn_1081 wn_11 wn_1078 wn_1079 wn_1080 (by decide +kernel) ⟨Nat.le_of_ble_eq_true rfl, Nat.le_of_ble_eq_true rfl⟩ ⟨Nat.le_of_ble_eq_true rfl, Nat.le_of_ble_eq_true rfl⟩ rfl (Nat.le_of_ble_eq_true rfl) lqC lqD (lqC_ a b cI cJ cS cT (f_X8_stretch (xs (i + 1)).toInt (xs (i + 2)).toInt sx).2 t) (lqD_ a b cI cJ cS cT (f_X8_stretch (xs (i + 1)).toInt (xs (i + 2)).toInt sx).2 t) lqCn lqDn lqCD dL_law_511 (fun _ _ => ?_)
  refine n_st (st' := [gI (f_X9_stretch (xs (i + 1)).toInt (xs (i + 2)).toInt t).1, gI (f_X8_stretch (xs (i + 1)).toInt (xs (i + 2)).toInt sx).1]) rfl ?_
  exact n_eq_t (pc := 514) (tgt := 1487) E dL_law_514 (by decide) q.1 (kk _ _ q.2)
set_option maxRecDepth 100000 in
set_option maxHeartbeats 4000000 in
theorem lq_mean {D : va_G} {a b : Nat → Nat} {cI cJ cS cT : ClassId} {A : Nat → Prop} {p : Program} {l : Launch} {e : Env} {s : State} {m : MethodId} {args : Array Value} {below : List Frame} {meth : Method} {c : Code} {QQ : State → Prop} {bs L : Nat} {xs : Nat → Int32} {adK adV : Nat → Nat} {kA : Nat} (E : nE D (gT cI cJ cS cT) A p s m args meth c cL_law 4 RL ret meth.name) (HX : XS adK adV kA A s) (hXs : va_X bs L xs s s.heap) (hbl : bs < s.heap.size) (hbA : ¬ A bs) (hL : L ≤ 3584) {i : Nat} (hi : i + 7 ≤ L) {sx t : gMem} (hI : INW sx t) (kk : ∀ sx' t' : gMem, INW sx' t' → nK D A p l e room_1 s m args below meth c 4 QQ (wdX a cI cJ cS cT sx' ++ wdM b cI cJ t') 67 4894 1487 (lqV i a b bs) []) : nK D A p l e room_1 s m args below meth c 4 QQ (wdX a cI cJ cS cT sx ++ wdM b cI cJ t) 67 4894 519 (lqV i a b bs) [] := by
  obtain ⟨⟨-, ⟨⟨hRX, hCD, hBG, hLA, -, hMOx, -, -, -, -, hKF, hKC, hKT⟩, -, hKM, hWY, -, -, -, -, -, -, -, -, -, -, -, -, -, -, -, -, -, -⟩, ⟨⟨hRM, hVS, hKN, hMO, -⟩, hOR, hBE, hFI, hMN, -, -, -, -, -⟩, -, -, -⟩, -⟩ := id hI
  have q := EW_mean hI (i_rg (xs (i + 1))) (i_rg (xs (i + 2)))
  refine n_aload (pc := 519) E 1 dL_law_519 rfl rfl ?_
  refine n_arg (pc := 520) E hXs hbl hbA hL (i := i) 1 rfl rfl (by omega) dL_law_520 dL_law_521 dL_law_522 dL_law_523 dL_law_524 ?_
  refine n_arg (pc := 525) E hXs hbl hbA hL (i := i) 2 rfl rfl (by omega) dL_law_525 dL_law_526 dL_law_527 dL_law_528 dL_law_529 ?_
  refine n_callG (pc := 530) (np := 2) (As := [gI (xs (i + 1)).toInt, gI (xs (i + 2)).toInt]) (st := []) (q0 := 0) (σ := sx) (wr := wdM b cI cJ t) E (c_X8_mean l D a cI cJ cS cT sx (xs (i + 1)).toInt (xs (i + 2)).toInt (i_rg _) (i_rg _) hCD hBG hLA hMOx hKF hKC hKT hKM hWY) (hwdX a cI cJ cS cT) hRX rfl rfl wn_561 wn_1 wn_558 wn_559 wn_560 (by decide +kernel) ⟨Nat.le_of_ble_eq_true rfl, Nat.le_of_ble_eq_true rfl⟩ ⟨Nat.le_of_ble_eq_true rfl, Nat.le_of_ble_eq_true rfl⟩ rfl (Nat.le_of_ble_eq_true rfl) lqA lqB (lqA_ a b cI cJ cS cT sx t) (lqB_ a b cI cJ cS cT sx t) lqAn lqBn lqAB dL_law_530 (fun _ _ => ?_)
  refine n_st (st' := [gL (f_X8_mean (xs (i + 1)).toInt (xs (i + 2)).toInt sx).1]) rfl ?_
  refine n_aload (pc := 533) E 2 dL_law_533 rfl rfl ?_
  refine n_arg (pc := 534) E hXs hbl hbA hL (i := i) 1 rfl rfl (by omega) dL_law_534 dL_law_535 dL_law_536 dL_law_537 dL_law_538 ?_
  refine n_arg (pc := 539) E hXs hbl hbA hL (i := i) 2 rfl rfl (by omega) dL_law_539 dL_law_540 dL_law_541 dL_law_542 dL_law_543 ?_
  refine n_callG (pc := 544) (np := 2) (As := [gI (xs (i + 1)).toInt, gI (xs (i + 2)).toInt]) (st := [gL (f_X8_mean (xs (i + 1)).toInt (xs (i + 2)).toInt sx).1]) (q0 := 0) (σ := t) (wr := wdX a cI cJ cS cT (f_X8_mean (xs (i + 1)).toInt (xs (i + 2)).toInt sx).2) E (c_X9_mean l D b cI cJ cS cT t (xs (i + 1)).toInt (xs (i + 2)).toInt (i_rg _) (i_rg _) hVS hKN hMO hOR hBE hFI hMN) (hwdM b cI cJ) hRM rfl rfl wn_1100 wn_11 wn_1097 wn_1098 wn_1099 (by decide +kernel) ⟨Nat.le_of_ble_eq_true rfl, Nat.le_of_ble_eq_true rfl⟩ ⟨Nat.le_of_ble_eq_true rfl, Nat.le_of_ble_eq_true rfl⟩ rfl (Nat.le_of_ble_eq_true rfl) lqC lqD (lqC_ a b cI cJ cS cT (f_X8_mean (xs (i + 1)).toInt (xs (i + 2)).toInt sx).2 t) (lqD_ a b cI cJ cS cT (f_X8_mean (xs (i + 1)).toInt (xs (i + 2)).toInt sx).2 t) lqCn lqDn lqCD dL_law_544 (fun _ _ => ?_)
  refine n_st (st' := [gL (f_X9_mean (xs (i + 1)).toInt (xs (i + 2)).toInt t).1, gL (f_X8_mean (xs (i + 1)).toInt (xs (i + 2)).toInt sx).1]) rfl ?_
  refine n_lcmp (pc := 547) E dL_law_547 q.1 ?_
  exact n_if0 (pc := 548) (tgt := 1487) E dL_law_548 (by decide) (kk _ _ q.2)
set_option maxRecDepth 100000 in
set_option maxHeartbeats 4000000 in
theorem lq_plan {D : va_G} {a b : Nat → Nat} {cI cJ cS cT : ClassId} {A : Nat → Prop} {p : Program} {l : Launch} {e : Env} {s : State} {m : MethodId} {args : Array Value} {below : List Frame} {meth : Method} {c : Code} {QQ : State → Prop} {bs L : Nat} {xs : Nat → Int32} {adK adV : Nat → Nat} {kA : Nat} (E : nE D (gT cI cJ cS cT) A p s m args meth c cL_law 4 RL ret meth.name) (HX : XS adK adV kA A s) (hXs : va_X bs L xs s s.heap) (hbl : bs < s.heap.size) (hbA : ¬ A bs) (hL : L ≤ 3584) {i : Nat} (hi : i + 7 ≤ L) {sx t : gMem} (hI : INW sx t) (kk : ∀ sx' t' : gMem, INW sx' t' → nK D A p l e room_1 s m args below meth c 4 QQ (wdX a cI cJ cS cT sx' ++ wdM b cI cJ t') 67 4894 1487 (lqV i a b bs) []) : nK D A p l e room_1 s m args below meth c 4 QQ (wdX a cI cJ cS cT sx ++ wdM b cI cJ t) 67 4894 553 (lqV i a b bs) [] := by
  obtain ⟨⟨-, ⟨⟨hRX, hCD, hBG, hLA, -, hMOx, -, -, hEN, -, hKF, hKC, hKT⟩, -, hKM, hWY, -, -, -, -, -, -, -, -, -, -, -, -, -, -, -, -, -, -⟩, ⟨⟨hRM, hVS, hKN, hMO, hTD⟩, hOR, hBE, hFI, hMN, -, -, -, -, -⟩, -, -, -⟩, -⟩ := id hI
  have q := EW_plan hI 
  refine n_aload (pc := 553) E 1 dL_law_553 rfl rfl ?_
  refine n_callG (pc := 554) (np := 0) (As := []) (st := []) (q0 := 0) (σ := sx) (wr := wdM b cI cJ t) E (c_X8_plan l D a cI cJ cS cT sx   hCD hBG hLA hMOx hKF hKC hKT hKM hWY hEN) (hwdX a cI cJ cS cT) hRX rfl rfl wn_602 wn_1 wn_599 wn_600 wn_601 (by decide +kernel) ⟨Nat.le_of_ble_eq_true rfl, Nat.le_of_ble_eq_true rfl⟩ ⟨Nat.le_of_ble_eq_true rfl, Nat.le_of_ble_eq_true rfl⟩ rfl (Nat.le_of_ble_eq_true rfl) lqA lqB (lqA_ a b cI cJ cS cT sx t) (lqB_ a b cI cJ cS cT sx t) lqAn lqBn lqAB dL_law_554 (fun _ _ => ?_)
  refine n_st (st' := [gL (f_X8_plan sx).1]) rfl ?_
  refine n_aload (pc := 557) E 2 dL_law_557 rfl rfl ?_
  refine n_callG (pc := 558) (np := 0) (As := []) (st := [gL (f_X8_plan sx).1]) (q0 := 0) (σ := t) (wr := wdX a cI cJ cS cT (f_X8_plan sx).2) E (c_X9_plan l D b cI cJ cS cT t   hVS hKN hMO hOR hBE hFI hMN hTD) (hwdM b cI cJ) hRM rfl rfl wn_1132 wn_11 wn_1129 wn_1130 wn_1131 (by decide +kernel) ⟨Nat.le_of_ble_eq_true rfl, Nat.le_of_ble_eq_true rfl⟩ ⟨Nat.le_of_ble_eq_true rfl, Nat.le_of_ble_eq_true rfl⟩ rfl (Nat.le_of_ble_eq_true rfl) lqC lqD (lqC_ a b cI cJ cS cT (f_X8_plan sx).2 t) (lqD_ a b cI cJ cS cT (f_X8_plan sx).2 t) lqCn lqDn lqCD dL_law_558 (fun _ _ => ?_)
  refine n_st (st' := [gL (f_X9_plan t).1, gL (f_X8_plan sx).1]) rfl ?_
  refine n_lcmp (pc := 561) E dL_law_561 q.1 ?_
  exact n_if0 (pc := 562) (tgt := 1487) E dL_law_562 (by decide) (kk _ _ q.2)
set_option maxRecDepth 100000 in
set_option maxHeartbeats 4000000 in
theorem lq_best {D : va_G} {a b : Nat → Nat} {cI cJ cS cT : ClassId} {A : Nat → Prop} {p : Program} {l : Launch} {e : Env} {s : State} {m : MethodId} {args : Array Value} {below : List Frame} {meth : Method} {c : Code} {QQ : State → Prop} {bs L : Nat} {xs : Nat → Int32} {adK adV : Nat → Nat} {kA : Nat} (E : nE D (gT cI cJ cS cT) A p s m args meth c cL_law 4 RL ret meth.name) (HX : XS adK adV kA A s) (hXs : va_X bs L xs s s.heap) (hbl : bs < s.heap.size) (hbA : ¬ A bs) (hL : L ≤ 3584) {i : Nat} (hi : i + 7 ≤ L) {sx t : gMem} (hI : INW sx t) (kk : ∀ sx' t' : gMem, INW sx' t' → nK D A p l e room_1 s m args below meth c 4 QQ (wdX a cI cJ cS cT sx' ++ wdM b cI cJ t') 67 4894 1487 (lqV i a b bs) []) : nK D A p l e room_1 s m args below meth c 4 QQ (wdX a cI cJ cS cT sx ++ wdM b cI cJ t) 67 4894 567 (lqV i a b bs) [] := by
  obtain ⟨⟨-, ⟨⟨hRX, hCD, hBG, hLA, -, hMOx, -, -, hEN, -, hKF, hKC, hKT⟩, -, hKM, hWY, hLEA, -, -, -, -, -, -, -, -, -, -, -, -, -, -, -, -, -⟩, ⟨⟨hRM, hVS, hKN, hMO, hTD⟩, hOR, hBE, hFI, hMN, -, -, -, -, -⟩, -, -, -⟩, -⟩ := id hI
  have q := EW_best hI (i_rg (xs (i + 1))) (i_rg (xs (i + 2)))
  refine n_aload (pc := 567) E 1 dL_law_567 rfl rfl ?_
  refine n_arg (pc := 568) E hXs hbl hbA hL (i := i) 1 rfl rfl (by omega) dL_law_568 dL_law_569 dL_law_570 dL_law_571 dL_law_572 ?_
  refine n_arg (pc := 573) E hXs hbl hbA hL (i := i) 2 rfl rfl (by omega) dL_law_573 dL_law_574 dL_law_575 dL_law_576 dL_law_577 ?_
  refine n_callG (pc := 578) (np := 2) (As := [gI (xs (i + 1)).toInt, gI (xs (i + 2)).toInt]) (st := []) (q0 := 0) (σ := sx) (wr := wdM b cI cJ t) E (c_X8_best l D a cI cJ cS cT sx (xs (i + 1)).toInt (xs (i + 2)).toInt (i_rg _) (i_rg _) hCD hBG hLA hMOx hKF hKC hKT hKM hWY hLEA hEN) (hwdX a cI cJ cS cT) hRX rfl rfl wn_606 wn_1 wn_603 wn_604 wn_605 (by decide +kernel) ⟨Nat.le_of_ble_eq_true rfl, Nat.le_of_ble_eq_true rfl⟩ ⟨Nat.le_of_ble_eq_true rfl, Nat.le_of_ble_eq_true rfl⟩ rfl (Nat.le_of_ble_eq_true rfl) lqA lqB (lqA_ a b cI cJ cS cT sx t) (lqB_ a b cI cJ cS cT sx t) lqAn lqBn lqAB dL_law_578 (fun _ _ => ?_)
  refine n_st (st' := [gL (f_X8_best (xs (i + 1)).toInt (xs (i + 2)).toInt sx).1]) rfl ?_
  refine n_aload (pc := 581) E 2 dL_law_581 rfl rfl ?_
  refine n_arg (pc := 582) E hXs hbl hbA hL (i := i) 1 rfl rfl (by omega) dL_law_582 dL_law_583 dL_law_584 dL_law_585 dL_law_586 ?_
  refine n_arg (pc := 587) E hXs hbl hbA hL (i := i) 2 rfl rfl (by omega) dL_law_587 dL_law_588 dL_law_589 dL_law_590 dL_law_591 ?_
  refine n_callG (pc := 592) (np := 2) (As := [gI (xs (i + 1)).toInt, gI (xs (i + 2)).toInt]) (st := [gL (f_X8_best (xs (i + 1)).toInt (xs (i + 2)).toInt sx).1]) (q0 := 0) (σ := t) (wr := wdX a cI cJ cS cT (f_X8_best (xs (i + 1)).toInt (xs (i + 2)).toInt sx).2) E (c_X9_best l D b cI cJ cS cT t (xs (i + 1)).toInt (xs (i + 2)).toInt (i_rg _) (i_rg _) hVS hKN hMO hOR hBE hFI hMN hTD) (hwdM b cI cJ) hRM rfl rfl wn_1136 wn_11 wn_1133 wn_1134 wn_1135 (by decide +kernel) ⟨Nat.le_of_ble_eq_true rfl, Nat.le_of_ble_eq_true rfl⟩ ⟨Nat.le_of_ble_eq_true rfl, Nat.le_of_ble_eq_true rfl⟩ rfl (Nat.le_of_ble_eq_true rfl) lqC lqD (lqC_ a b cI cJ cS cT (f_X8_best (xs (i + 1)).toInt (xs (i + 2)).toInt sx).2 t) (lqD_ a b cI cJ cS cT (f_X8_best (xs (i + 1)).toInt (xs (i + 2)).toInt sx).2 t) lqCn lqDn lqCD dL_law_592 (fun _ _ => ?_)
  refine n_st (st' := [gL (f_X9_best (xs (i + 1)).toInt (xs (i + 2)).toInt t).1, gL (f_X8_best (xs (i + 1)).toInt (xs (i + 2)).toInt sx).1]) rfl ?_
  refine n_lcmp (pc := 595) E dL_law_595 q.1 ?_
  exact n_if0 (pc := 596) (tgt := 1487) E dL_law_596 (by decide) (kk _ _ q.2)
set_option maxRecDepth 100000 in
set_option maxHeartbeats 4000000 in
theorem lq_every {D : va_G} {a b : Nat → Nat} {cI cJ cS cT : ClassId} {A : Nat → Prop} {p : Program} {l : Launch} {e : Env} {s : State} {m : MethodId} {args : Array Value} {below : List Frame} {meth : Method} {c : Code} {QQ : State → Prop} {bs L : Nat} {xs : Nat → Int32} {adK adV : Nat → Nat} {kA : Nat} (E : nE D (gT cI cJ cS cT) A p s m args meth c cL_law 4 RL ret meth.name) (HX : XS adK adV kA A s) (hXs : va_X bs L xs s s.heap) (hbl : bs < s.heap.size) (hbA : ¬ A bs) (hL : L ≤ 3584) {i : Nat} (hi : i + 7 ≤ L) {sx t : gMem} (hI : INW sx t) (kk : ∀ sx' t' : gMem, INW sx' t' → nK D A p l e room_1 s m args below meth c 4 QQ (wdX a cI cJ cS cT sx' ++ wdM b cI cJ t') 67 4894 1487 (lqV i a b bs) []) : nK D A p l e room_1 s m args below meth c 4 QQ (wdX a cI cJ cS cT sx ++ wdM b cI cJ t) 67 4894 601 (lqV i a b bs) [] := by
  obtain ⟨⟨-, ⟨⟨hRX, hCD, hBG, hLA, -, hMOx, -, -, hEN, -, hKF, hKC, hKT⟩, -, hKM, hWY, hLEA, -, -, -, -, -, -, -, -, -, -, -, -, -, -, -, -, -⟩, ⟨⟨hRM, hVS, hKN, hMO, hTD⟩, hOR, hBE, hFI, hMN, -, -, -, -, -⟩, -, -, -⟩, -⟩ := id hI
  have q := EW_every hI (i_rg (xs (i + 1)))
  refine n_aload (pc := 601) E 1 dL_law_601 rfl rfl ?_
  refine n_arg (pc := 602) E hXs hbl hbA hL (i := i) 1 rfl rfl (by omega) dL_law_602 dL_law_603 dL_law_604 dL_law_605 dL_law_606 ?_
  refine n_callG (pc := 607) (np := 1) (As := [gI (xs (i + 1)).toInt]) (st := []) (q0 := 0) (σ := sx) (wr := wdM b cI cJ t) E (c_X8_every l D a cI cJ cS cT sx (xs (i + 1)).toInt (i_rg _) hCD hBG hLA hMOx hKF hKC hKT hKM hWY hLEA hEN) (hwdX a cI cJ cS cT) hRX rfl rfl wn_632 wn_1 wn_629 wn_630 wn_631 (by decide +kernel) ⟨Nat.le_of_ble_eq_true rfl, Nat.le_of_ble_eq_true rfl⟩ ⟨Nat.le_of_ble_eq_true rfl, Nat.le_of_ble_eq_true rfl⟩ rfl (Nat.le_of_ble_eq_true rfl) lqA lqB (lqA_ a b cI cJ cS cT sx t) (lqB_ a b cI cJ cS cT sx t) lqAn lqBn lqAB dL_law_607 (fun _ _ => ?_)
  refine n_st (st' := [gL (f_X8_every (xs (i + 1)).toInt sx).1]) rfl ?_
  refine n_aload (pc := 610) E 2 dL_law_610 rfl rfl ?_
  refine n_arg (pc := 611) E hXs hbl hbA hL (i := i) 1 rfl rfl (by omega) dL_law_611 dL_law_612 dL_law_613 dL_law_614 dL_law_615 ?_
  refine n_callG (pc := 616) (np := 1) (As := [gI (xs (i + 1)).toInt]) (st := [gL (f_X8_every (xs (i + 1)).toInt sx).1]) (q0 := 0) (σ := t) (wr := wdX a cI cJ cS cT (f_X8_every (xs (i + 1)).toInt sx).2) E (c_X9_every l D b cI cJ cS cT t (xs (i + 1)).toInt (i_rg _) hVS hKN hMO hOR hBE hFI hMN hTD) (hwdM b cI cJ) hRM rfl rfl wn_1143 wn_11 wn_1140 wn_1141 wn_1142 (by decide +kernel) ⟨Nat.le_of_ble_eq_true rfl, Nat.le_of_ble_eq_true rfl⟩ ⟨Nat.le_of_ble_eq_true rfl, Nat.le_of_ble_eq_true rfl⟩ rfl (Nat.le_of_ble_eq_true rfl) lqC lqD (lqC_ a b cI cJ cS cT (f_X8_every (xs (i + 1)).toInt sx).2 t) (lqD_ a b cI cJ cS cT (f_X8_every (xs (i + 1)).toInt sx).2 t) lqCn lqDn lqCD dL_law_616 (fun _ _ => ?_)
  refine n_st (st' := [gL (f_X9_every (xs (i + 1)).toInt t).1, gL (f_X8_every (xs (i + 1)).toInt sx).1]) rfl ?_
  refine n_lcmp (pc := 619) E dL_law_619 q.1 ?_
  exact n_if0 (pc := 620) (tgt := 1487) E dL_law_620 (by decide) (kk _ _ q.2)
set_option maxRecDepth 100000 in
set_option maxHeartbeats 4000000 in
theorem lq_which {D : va_G} {a b : Nat → Nat} {cI cJ cS cT : ClassId} {A : Nat → Prop} {p : Program} {l : Launch} {e : Env} {s : State} {m : MethodId} {args : Array Value} {below : List Frame} {meth : Method} {c : Code} {QQ : State → Prop} {bs L : Nat} {xs : Nat → Int32} {adK adV : Nat → Nat} {kA : Nat} (E : nE D (gT cI cJ cS cT) A p s m args meth c cL_law 4 RL ret meth.name) (HX : XS adK adV kA A s) (hXs : va_X bs L xs s s.heap) (hbl : bs < s.heap.size) (hbA : ¬ A bs) (hL : L ≤ 3584) {i : Nat} (hi : i + 7 ≤ L) {sx t : gMem} (hI : INW sx t) (kk : ∀ sx' t' : gMem, INW sx' t' → nK D A p l e room_1 s m args below meth c 4 QQ (wdX a cI cJ cS cT sx' ++ wdM b cI cJ t') 67 4894 1487 (lqV i a b bs) []) : nK D A p l e room_1 s m args below meth c 4 QQ (wdX a cI cJ cS cT sx ++ wdM b cI cJ t) 67 4894 625 (lqV i a b bs) [] := by
  obtain ⟨⟨-, ⟨⟨hRX, hCD, hBG, hLA, -, hMOx, -, -, -, -, hKF, hKC, hKT⟩, -, hKM, hWY, hLEA, -, -, -, -, -, -, -, -, -, -, -, -, -, -, -, -, -⟩, ⟨⟨hRM, hVS, hKN, hMO, hTD⟩, hOR, hBE, hFI, hMN, -, -, -, -, -⟩, -, -, -⟩, -⟩ := id hI
  have q := EW_which hI (i_rg (xs (i + 1)))
  refine n_aload (pc := 625) E 1 dL_law_625 rfl rfl ?_
  refine n_arg (pc := 626) E hXs hbl hbA hL (i := i) 1 rfl rfl (by omega) dL_law_626 dL_law_627 dL_law_628 dL_law_629 dL_law_630 ?_
  refine n_callG (pc := 631) (np := 1) (As := [gI (xs (i + 1)).toInt]) (st := []) (q0 := 0) (σ := sx) (wr := wdM b cI cJ t) E (c_X8_which l D a cI cJ cS cT sx (xs (i + 1)).toInt (i_rg _) hCD hBG hLA hMOx hKF hKC hKT hKM hWY hLEA) (hwdX a cI cJ cS cT) hRX rfl rfl wn_640 wn_1 wn_637 wn_638 wn_639 (by decide +kernel) ⟨Nat.le_of_ble_eq_true rfl, Nat.le_of_ble_eq_true rfl⟩ ⟨Nat.le_of_ble_eq_true rfl, Nat.le_of_ble_eq_true rfl⟩ rfl (Nat.le_of_ble_eq_true rfl) lqA lqB (lqA_ a b cI cJ cS cT sx t) (lqB_ a b cI cJ cS cT sx t) lqAn lqBn lqAB dL_law_631 (fun _ _ => ?_)
  refine n_st (st' := [gL (f_X8_which (xs (i + 1)).toInt sx).1]) rfl ?_
  refine n_aload (pc := 634) E 2 dL_law_634 rfl rfl ?_
  refine n_arg (pc := 635) E hXs hbl hbA hL (i := i) 1 rfl rfl (by omega) dL_law_635 dL_law_636 dL_law_637 dL_law_638 dL_law_639 ?_
  refine n_callG (pc := 640) (np := 1) (As := [gI (xs (i + 1)).toInt]) (st := [gL (f_X8_which (xs (i + 1)).toInt sx).1]) (q0 := 0) (σ := t) (wr := wdX a cI cJ cS cT (f_X8_which (xs (i + 1)).toInt sx).2) E (c_X9_which l D b cI cJ cS cT t (xs (i + 1)).toInt (i_rg _) hVS hKN hMO hOR hBE hFI hMN hTD) (hwdM b cI cJ) hRM rfl rfl wn_1150 wn_11 wn_1147 wn_1148 wn_1149 (by decide +kernel) ⟨Nat.le_of_ble_eq_true rfl, Nat.le_of_ble_eq_true rfl⟩ ⟨Nat.le_of_ble_eq_true rfl, Nat.le_of_ble_eq_true rfl⟩ rfl (Nat.le_of_ble_eq_true rfl) lqC lqD (lqC_ a b cI cJ cS cT (f_X8_which (xs (i + 1)).toInt sx).2 t) (lqD_ a b cI cJ cS cT (f_X8_which (xs (i + 1)).toInt sx).2 t) lqCn lqDn lqCD dL_law_640 (fun _ _ => ?_)
  refine n_st (st' := [gL (f_X9_which (xs (i + 1)).toInt t).1, gL (f_X8_which (xs (i + 1)).toInt sx).1]) rfl ?_
  refine n_lcmp (pc := 643) E dL_law_643 q.1 ?_
  exact n_if0 (pc := 644) (tgt := 1487) E dL_law_644 (by decide) (kk _ _ q.2)
set_option maxRecDepth 100000 in
set_option maxHeartbeats 4000000 in
theorem lq_stop {D : va_G} {a b : Nat → Nat} {cI cJ cS cT : ClassId} {A : Nat → Prop} {p : Program} {l : Launch} {e : Env} {s : State} {m : MethodId} {args : Array Value} {below : List Frame} {meth : Method} {c : Code} {QQ : State → Prop} {bs L : Nat} {xs : Nat → Int32} {adK adV : Nat → Nat} {kA : Nat} (E : nE D (gT cI cJ cS cT) A p s m args meth c cL_law 4 RL ret meth.name) (HX : XS adK adV kA A s) (hXs : va_X bs L xs s s.heap) (hbl : bs < s.heap.size) (hbA : ¬ A bs) (hL : L ≤ 3584) {i : Nat} (hi : i + 7 ≤ L) {sx t : gMem} (hI : INW sx t) (kk : ∀ sx' t' : gMem, INW sx' t' → nK D A p l e room_1 s m args below meth c 4 QQ (wdX a cI cJ cS cT sx' ++ wdM b cI cJ t') 67 4894 1487 (lqV i a b bs) []) : nK D A p l e room_1 s m args below meth c 4 QQ (wdX a cI cJ cS cT sx ++ wdM b cI cJ t) 67 4894 649 (lqV i a b bs) [] := by
  obtain ⟨⟨-, ⟨⟨hRX, hCD, hBG, hLA, hKNx, hMOx, -, -, hEN, -, hKF, hKC, hKT⟩, -, hKM, hWY, hLEA, -, -, -, -, -, -, -, -, -, -, -, -, -, -, -, -, -⟩, ⟨⟨hRM, hVS, hKN, hMO, hTD⟩, hOR, hBE, hFI, hMN, -, -, -, -, -⟩, -, -, -⟩, -⟩ := id hI
  have q := EW_stop hI (i_rg (xs (i + 1)))
  refine n_aload (pc := 649) E 1 dL_law_649 rfl rfl ?_
  refine n_arg (pc := 650) E hXs hbl hbA hL (i := i) 1 rfl rfl (by omega) dL_law_650 dL_law_651 dL_law_652 dL_law_653 dL_law_654 ?_
  refine n_callG (pc := 655) (np := 1) (As := [gI (xs (i + 1)).toInt]) (st := []) (q0 := 0) (σ := sx) (wr := wdM b cI cJ t) E (c_X8_stop l D a cI cJ cS cT sx (xs (i + 1)).toInt (i_rg _) hCD hBG hLA hEN hKNx hMOx hKM hWY hLEA hKF hKC hKT) (hwdX a cI cJ cS cT) hRX rfl rfl wn_644 wn_1 wn_641 wn_642 wn_643 (by decide +kernel) ⟨Nat.le_of_ble_eq_true rfl, Nat.le_of_ble_eq_true rfl⟩ ⟨Nat.le_of_ble_eq_true rfl, Nat.le_of_ble_eq_true rfl⟩ rfl (Nat.le_of_ble_eq_true rfl) lqA lqB (lqA_ a b cI cJ cS cT sx t) (lqB_ a b cI cJ cS cT sx t) lqAn lqBn lqAB dL_law_655 (fun _ _ => ?_)
  refine n_st (st' := [gL (f_X8_stop (xs (i + 1)).toInt sx).1]) rfl ?_
  refine n_aload (pc := 658) E 2 dL_law_658 rfl rfl ?_
  refine n_arg (pc := 659) E hXs hbl hbA hL (i := i) 1 rfl rfl (by omega) dL_law_659 dL_law_660 dL_law_661 dL_law_662 dL_law_663 ?_
  refine n_callG (pc := 664) (np := 1) (As := [gI (xs (i + 1)).toInt]) (st := [gL (f_X8_stop (xs (i + 1)).toInt sx).1]) (q0 := 0) (σ := t) (wr := wdX a cI cJ cS cT (f_X8_stop (xs (i + 1)).toInt sx).2) E (c_X9_stop l D b cI cJ cS cT t (xs (i + 1)).toInt (i_rg _) hVS hKN hMO hOR hBE hFI hMN hTD) (hwdM b cI cJ) hRM rfl rfl wn_1154 wn_11 wn_1151 wn_1152 wn_1153 (by decide +kernel) ⟨Nat.le_of_ble_eq_true rfl, Nat.le_of_ble_eq_true rfl⟩ ⟨Nat.le_of_ble_eq_true rfl, Nat.le_of_ble_eq_true rfl⟩ rfl (Nat.le_of_ble_eq_true rfl) lqC lqD (lqC_ a b cI cJ cS cT (f_X8_stop (xs (i + 1)).toInt sx).2 t) (lqD_ a b cI cJ cS cT (f_X8_stop (xs (i + 1)).toInt sx).2 t) lqCn lqDn lqCD dL_law_664 (fun _ _ => ?_)
  refine n_st (st' := [gL (f_X9_stop (xs (i + 1)).toInt t).1, gL (f_X8_stop (xs (i + 1)).toInt sx).1]) rfl ?_
  refine n_lcmp (pc := 667) E dL_law_667 q.1 ?_
  exact n_if0 (pc := 668) (tgt := 1487) E dL_law_668 (by decide) (kk _ _ q.2)
set_option maxRecDepth 100000 in
set_option maxHeartbeats 4000000 in
theorem lq_dear {D : va_G} {a b : Nat → Nat} {cI cJ cS cT : ClassId} {A : Nat → Prop} {p : Program} {l : Launch} {e : Env} {s : State} {m : MethodId} {args : Array Value} {below : List Frame} {meth : Method} {c : Code} {QQ : State → Prop} {bs L : Nat} {xs : Nat → Int32} {adK adV : Nat → Nat} {kA : Nat} (E : nE D (gT cI cJ cS cT) A p s m args meth c cL_law 4 RL ret meth.name) (HX : XS adK adV kA A s) (hXs : va_X bs L xs s s.heap) (hbl : bs < s.heap.size) (hbA : ¬ A bs) (hL : L ≤ 3584) {i : Nat} (hi : i + 7 ≤ L) {sx t : gMem} (hI : INW sx t) (kk : ∀ sx' t' : gMem, INW sx' t' → nK D A p l e room_1 s m args below meth c 4 QQ (wdX a cI cJ cS cT sx' ++ wdM b cI cJ t') 67 4894 1487 (lqV i a b bs) []) : nK D A p l e room_1 s m args below meth c 4 QQ (wdX a cI cJ cS cT sx ++ wdM b cI cJ t) 67 4894 673 (lqV i a b bs) [] := by
  obtain ⟨⟨-, ⟨⟨hRX, hCD, hBG, hLA, -, hMOx, -, -, hEN, -, hKF, hKC, hKT⟩, -, hKM, hWY, hLEA, -, -, -, -, -, -, -, -, -, -, -, -, -, -, -, -, -⟩, ⟨⟨hRM, hVS, hKN, hMO, hTD⟩, hOR, hBE, hFI, hMN, -, -, -, -, -⟩, -, -, -⟩, -⟩ := id hI
  have q := EW_dear hI (i_rg (xs (i + 1)))
  refine n_aload (pc := 673) E 1 dL_law_673 rfl rfl ?_
  refine n_arg (pc := 674) E hXs hbl hbA hL (i := i) 1 rfl rfl (by omega) dL_law_674 dL_law_675 dL_law_676 dL_law_677 dL_law_678 ?_
  refine n_callG (pc := 679) (np := 1) (As := [gI (xs (i + 1)).toInt]) (st := []) (q0 := 0) (σ := sx) (wr := wdM b cI cJ t) E (c_X8_dear l D a cI cJ cS cT sx (xs (i + 1)).toInt (i_rg _) hCD hBG hLA hMOx hKF hKC hKT hKM hWY hLEA hEN) (hwdX a cI cJ cS cT) hRX rfl rfl wn_650 wn_1 wn_647 wn_648 wn_649 (by decide +kernel) ⟨Nat.le_of_ble_eq_true rfl, Nat.le_of_ble_eq_true rfl⟩ ⟨Nat.le_of_ble_eq_true rfl, Nat.le_of_ble_eq_true rfl⟩ rfl (Nat.le_of_ble_eq_true rfl) lqA lqB (lqA_ a b cI cJ cS cT sx t) (lqB_ a b cI cJ cS cT sx t) lqAn lqBn lqAB dL_law_679 (fun _ _ => ?_)
  refine n_st (st' := [gL (f_X8_dear (xs (i + 1)).toInt sx).1]) rfl ?_
  refine n_aload (pc := 682) E 2 dL_law_682 rfl rfl ?_
  refine n_arg (pc := 683) E hXs hbl hbA hL (i := i) 1 rfl rfl (by omega) dL_law_683 dL_law_684 dL_law_685 dL_law_686 dL_law_687 ?_
  refine n_callG (pc := 688) (np := 1) (As := [gI (xs (i + 1)).toInt]) (st := [gL (f_X8_dear (xs (i + 1)).toInt sx).1]) (q0 := 0) (σ := t) (wr := wdX a cI cJ cS cT (f_X8_dear (xs (i + 1)).toInt sx).2) E (c_X9_dear l D b cI cJ cS cT t (xs (i + 1)).toInt (i_rg _) hVS hKN hMO hOR hBE hFI hMN hTD) (hwdM b cI cJ) hRM rfl rfl wn_1159 wn_11 wn_1156 wn_1157 wn_1158 (by decide +kernel) ⟨Nat.le_of_ble_eq_true rfl, Nat.le_of_ble_eq_true rfl⟩ ⟨Nat.le_of_ble_eq_true rfl, Nat.le_of_ble_eq_true rfl⟩ rfl (Nat.le_of_ble_eq_true rfl) lqC lqD (lqC_ a b cI cJ cS cT (f_X8_dear (xs (i + 1)).toInt sx).2 t) (lqD_ a b cI cJ cS cT (f_X8_dear (xs (i + 1)).toInt sx).2 t) lqCn lqDn lqCD dL_law_688 (fun _ _ => ?_)
  refine n_st (st' := [gL (f_X9_dear (xs (i + 1)).toInt t).1, gL (f_X8_dear (xs (i + 1)).toInt sx).1]) rfl ?_
  refine n_lcmp (pc := 691) E dL_law_691 q.1 ?_
  exact n_if0 (pc := 692) (tgt := 1487) E dL_law_692 (by decide) (kk _ _ q.2)
set_option maxRecDepth 100000 in
set_option maxHeartbeats 4000000 in
theorem lq_likely {D : va_G} {a b : Nat → Nat} {cI cJ cS cT : ClassId} {A : Nat → Prop} {p : Program} {l : Launch} {e : Env} {s : State} {m : MethodId} {args : Array Value} {below : List Frame} {meth : Method} {c : Code} {QQ : State → Prop} {bs L : Nat} {xs : Nat → Int32} {adK adV : Nat → Nat} {kA : Nat} (E : nE D (gT cI cJ cS cT) A p s m args meth c cL_law 4 RL ret meth.name) (HX : XS adK adV kA A s) (hXs : va_X bs L xs s s.heap) (hbl : bs < s.heap.size) (hbA : ¬ A bs) (hL : L ≤ 3584) {i : Nat} (hi : i + 7 ≤ L) {sx t : gMem} (hI : INW sx t) (kk : ∀ sx' t' : gMem, INW sx' t' → nK D A p l e room_1 s m args below meth c 4 QQ (wdX a cI cJ cS cT sx' ++ wdM b cI cJ t') 67 4894 1487 (lqV i a b bs) []) : nK D A p l e room_1 s m args below meth c 4 QQ (wdX a cI cJ cS cT sx ++ wdM b cI cJ t) 67 4894 697 (lqV i a b bs) [] := by
  obtain ⟨⟨-, ⟨⟨hRX, hCD, hBG, hLA, -, hMOx, -, -, -, -, hKF, -, -⟩, -, hKM, hWY, -, hORx, hBEx, -, -, -, -, -, -, -, -, -, -, -, -, -, -, -⟩, ⟨⟨hRM, hVS, hKN, hMO, -⟩, hOR, hBE, hFI, -, -, -, -, -, -⟩, -, -, -⟩, -⟩ := id hI
  have q := EW_likely hI (i_rg (xs (i + 1))) (i_rg (xs (i + 2)))
  refine n_aload (pc := 697) E 1 dL_law_697 rfl rfl ?_
  refine n_arg (pc := 698) E hXs hbl hbA hL (i := i) 1 rfl rfl (by omega) dL_law_698 dL_law_699 dL_law_700 dL_law_701 dL_law_702 ?_
  refine n_arg (pc := 703) E hXs hbl hbA hL (i := i) 2 rfl rfl (by omega) dL_law_703 dL_law_704 dL_law_705 dL_law_706 dL_law_707 ?_
  refine n_callG (pc := 708) (np := 2) (As := [gI (xs (i + 1)).toInt, gI (xs (i + 2)).toInt]) (st := []) (q0 := 0) (σ := sx) (wr := wdM b cI cJ t) E (c_X8_likely l D a cI cJ cS cT sx (xs (i + 1)).toInt (xs (i + 2)).toInt (i_rg _) (i_rg _) hCD hBG hLA hMOx hKM hWY hORx hBEx hKF) (hwdX a cI cJ cS cT) hRX rfl rfl wn_655 wn_1 wn_652 wn_653 wn_654 (by decide +kernel) ⟨Nat.le_of_ble_eq_true rfl, Nat.le_of_ble_eq_true rfl⟩ ⟨Nat.le_of_ble_eq_true rfl, Nat.le_of_ble_eq_true rfl⟩ rfl (Nat.le_of_ble_eq_true rfl) lqA lqB (lqA_ a b cI cJ cS cT sx t) (lqB_ a b cI cJ cS cT sx t) lqAn lqBn lqAB dL_law_708 (fun _ _ => ?_)
  refine n_st (st' := [gL (f_X8_likely (xs (i + 1)).toInt (xs (i + 2)).toInt sx).1]) rfl ?_
  refine n_aload (pc := 711) E 2 dL_law_711 rfl rfl ?_
  refine n_arg (pc := 712) E hXs hbl hbA hL (i := i) 1 rfl rfl (by omega) dL_law_712 dL_law_713 dL_law_714 dL_law_715 dL_law_716 ?_
  refine n_arg (pc := 717) E hXs hbl hbA hL (i := i) 2 rfl rfl (by omega) dL_law_717 dL_law_718 dL_law_719 dL_law_720 dL_law_721 ?_
  refine n_callG (pc := 722) (np := 2) (As := [gI (xs (i + 1)).toInt, gI (xs (i + 2)).toInt]) (st := [gL (f_X8_likely (xs (i + 1)).toInt (xs (i + 2)).toInt sx).1]) (q0 := 0) (σ := t) (wr := wdX a cI cJ cS cT (f_X8_likely (xs (i + 1)).toInt (xs (i + 2)).toInt sx).2) E (c_X9_likely l D b cI cJ cS cT t (xs (i + 1)).toInt (xs (i + 2)).toInt (i_rg _) (i_rg _) hVS hKN hMO hOR hBE hFI) (hwdM b cI cJ) hRM rfl rfl wn_1163 wn_11 wn_1160 wn_1161 wn_1162 (by decide +kernel) ⟨Nat.le_of_ble_eq_true rfl, Nat.le_of_ble_eq_true rfl⟩ ⟨Nat.le_of_ble_eq_true rfl, Nat.le_of_ble_eq_true rfl⟩ rfl (Nat.le_of_ble_eq_true rfl) lqC lqD (lqC_ a b cI cJ cS cT (f_X8_likely (xs (i + 1)).toInt (xs (i + 2)).toInt sx).2 t) (lqD_ a b cI cJ cS cT (f_X8_likely (xs (i + 1)).toInt (xs (i + 2)).toInt sx).2 t) lqCn lqDn lqCD dL_law_722 (fun _ _ => ?_)
  refine n_st (st' := [gL (f_X9_likely (xs (i + 1)).toInt (xs (i + 2)).toInt t).1, gL (f_X8_likely (xs (i + 1)).toInt (xs (i + 2)).toInt sx).1]) rfl ?_
  refine n_lcmp (pc := 725) E dL_law_725 q.1 ?_
  exact n_if0 (pc := 726) (tgt := 1487) E dL_law_726 (by decide) (kk _ _ q.2)
set_option maxRecDepth 100000 in
set_option maxHeartbeats 4000000 in
theorem lq_push {D : va_G} {a b : Nat → Nat} {cI cJ cS cT : ClassId} {A : Nat → Prop} {p : Program} {l : Launch} {e : Env} {s : State} {m : MethodId} {args : Array Value} {below : List Frame} {meth : Method} {c : Code} {QQ : State → Prop} {bs L : Nat} {xs : Nat → Int32} {adK adV : Nat → Nat} {kA : Nat} (E : nE D (gT cI cJ cS cT) A p s m args meth c cL_law 4 RL ret meth.name) (HX : XS adK adV kA A s) (hXs : va_X bs L xs s s.heap) (hbl : bs < s.heap.size) (hbA : ¬ A bs) (hL : L ≤ 3584) {i : Nat} (hi : i + 7 ≤ L) {sx t : gMem} (hI : INW sx t) (kk : ∀ sx' t' : gMem, INW sx' t' → nK D A p l e room_1 s m args below meth c 4 QQ (wdX a cI cJ cS cT sx' ++ wdM b cI cJ t') 67 4894 1487 (lqV i a b bs) []) : nK D A p l e room_1 s m args below meth c 4 QQ (wdX a cI cJ cS cT sx ++ wdM b cI cJ t) 67 4894 731 (lqV i a b bs) [] := by
  obtain ⟨⟨-, ⟨⟨hRX, -, -, -, -, -, -, -, -, -, -, -, -⟩, -, -, -, -, -, -, -, -, -, -, -, -, -, -, -, -, -, -, -, -, -⟩, ⟨⟨hRM, -, -, -, hTD⟩, -, -, -, -, -, -, -, -, -⟩, -, -, -⟩, -⟩ := id hI
  have q := EW_push hI (i_rg (xs (i + 1))) (i_rg (xs (i + 2)))
  refine n_aload (pc := 731) E 1 dL_law_731 rfl rfl ?_
  refine n_arg (pc := 732) E hXs hbl hbA hL (i := i) 1 rfl rfl (by omega) dL_law_732 dL_law_733 dL_law_734 dL_law_735 dL_law_736 ?_
  refine n_arg (pc := 737) E hXs hbl hbA hL (i := i) 2 rfl rfl (by omega) dL_law_737 dL_law_738 dL_law_739 dL_law_740 dL_law_741 ?_
  refine n_callG (pc := 742) (np := 2) (As := [gI (xs (i + 1)).toInt, gI (xs (i + 2)).toInt]) (st := []) (q0 := 0) (σ := sx) (wr := wdM b cI cJ t) E (c_X8_push l D a cI cJ cS cT sx (xs (i + 1)).toInt (xs (i + 2)).toInt (i_rg _) (i_rg _) ) (hwdX a cI cJ cS cT) hRX rfl rfl wn_668 wn_1 wn_665 wn_666 wn_667 (by decide +kernel) ⟨Nat.le_of_ble_eq_true rfl, Nat.le_of_ble_eq_true rfl⟩ ⟨Nat.le_of_ble_eq_true rfl, Nat.le_of_ble_eq_true rfl⟩ rfl (Nat.le_of_ble_eq_true rfl) lqA lqB (lqA_ a b cI cJ cS cT sx t) (lqB_ a b cI cJ cS cT sx t) lqAn lqBn lqAB dL_law_742 (fun _ _ => ?_)
  refine n_st (st' := [gI ((f_X8_push (xs (i + 1)).toInt (xs (i + 2)).toInt sx), sx).1]) rfl ?_
  refine n_aload (pc := 745) E 2 dL_law_745 rfl rfl ?_
  refine n_arg (pc := 746) E hXs hbl hbA hL (i := i) 1 rfl rfl (by omega) dL_law_746 dL_law_747 dL_law_748 dL_law_749 dL_law_750 ?_
  refine n_arg (pc := 751) E hXs hbl hbA hL (i := i) 2 rfl rfl (by omega) dL_law_751 dL_law_752 dL_law_753 dL_law_754 dL_law_755 ?_
  refine n_callG (pc := 756) (np := 2) (As := [gI (xs (i + 1)).toInt, gI (xs (i + 2)).toInt]) (st := [gI ((f_X8_push (xs (i + 1)).toInt (xs (i + 2)).toInt sx), sx).1]) (q0 := 0) (σ := t) (wr := wdX a cI cJ cS cT ((f_X8_push (xs (i + 1)).toInt (xs (i + 2)).toInt sx), sx).2) E (c_X9_push l D b cI cJ cS cT t (xs (i + 1)).toInt (xs (i + 2)).toInt (i_rg _) (i_rg _) hTD) (hwdM b cI cJ) hRM rfl rfl wn_1168 wn_11 wn_1165 wn_1166 wn_1167 (by decide +kernel) ⟨Nat.le_of_ble_eq_true rfl, Nat.le_of_ble_eq_true rfl⟩ ⟨Nat.le_of_ble_eq_true rfl, Nat.le_of_ble_eq_true rfl⟩ rfl (Nat.le_of_ble_eq_true rfl) lqC lqD (lqC_ a b cI cJ cS cT ((f_X8_push (xs (i + 1)).toInt (xs (i + 2)).toInt sx), sx).2 t) (lqD_ a b cI cJ cS cT ((f_X8_push (xs (i + 1)).toInt (xs (i + 2)).toInt sx), sx).2 t) lqCn lqDn lqCD dL_law_756 (fun _ _ => ?_)
  refine n_st (st' := [gI ((f_X9_push (xs (i + 1)).toInt (xs (i + 2)).toInt t), t).1, gI ((f_X8_push (xs (i + 1)).toInt (xs (i + 2)).toInt sx), sx).1]) rfl ?_
  exact n_eq_t (pc := 759) (tgt := 1487) E dL_law_759 (by decide) q.1 (kk _ _ q.2)
set_option maxRecDepth 100000 in
set_option maxHeartbeats 4000000 in
theorem lq_far {D : va_G} {a b : Nat → Nat} {cI cJ cS cT : ClassId} {A : Nat → Prop} {p : Program} {l : Launch} {e : Env} {s : State} {m : MethodId} {args : Array Value} {below : List Frame} {meth : Method} {c : Code} {QQ : State → Prop} {bs L : Nat} {xs : Nat → Int32} {adK adV : Nat → Nat} {kA : Nat} (E : nE D (gT cI cJ cS cT) A p s m args meth c cL_law 4 RL ret meth.name) (HX : XS adK adV kA A s) (hXs : va_X bs L xs s s.heap) (hbl : bs < s.heap.size) (hbA : ¬ A bs) (hL : L ≤ 3584) {i : Nat} (hi : i + 7 ≤ L) {sx t : gMem} (hI : INW sx t) (kk : ∀ sx' t' : gMem, INW sx' t' → nK D A p l e room_1 s m args below meth c 4 QQ (wdX a cI cJ cS cT sx' ++ wdM b cI cJ t') 67 4894 1487 (lqV i a b bs) []) : nK D A p l e room_1 s m args below meth c 4 QQ (wdX a cI cJ cS cT sx ++ wdM b cI cJ t) 67 4894 764 (lqV i a b bs) [] := by
  obtain ⟨⟨-, ⟨⟨hRX, -, -, -, -, -, -, -, -, -, -, -, -⟩, -, -, -, -, -, -, -, -, -, -, -, -, -, -, -, -, -, -, -, -, -⟩, ⟨⟨hRM, -, -, -, hTD⟩, -, -, -, -, -, -, -, -, -⟩, -, -, -⟩, -⟩ := id hI
  have q := EW_far hI (i_rg (xs (i + 1)))
  refine n_aload (pc := 764) E 1 dL_law_764 rfl rfl ?_
  refine n_arg (pc := 765) E hXs hbl hbA hL (i := i) 1 rfl rfl (by omega) dL_law_765 dL_law_766 dL_law_767 dL_law_768 dL_law_769 ?_
  refine n_callG (pc := 770) (np := 1) (As := [gI (xs (i + 1)).toInt]) (st := []) (q0 := 0) (σ := sx) (wr := wdM b cI cJ t) E (c_X8_far l D a cI cJ cS cT sx (xs (i + 1)).toInt (i_rg _) ) (hwdX a cI cJ cS cT) hRX rfl rfl wn_685 wn_1 wn_682 wn_683 wn_684 (by decide +kernel) ⟨Nat.le_of_ble_eq_true rfl, Nat.le_of_ble_eq_true rfl⟩ ⟨Nat.le_of_ble_eq_true rfl, Nat.le_of_ble_eq_true rfl⟩ rfl (Nat.le_of_ble_eq_true rfl) lqA lqB (lqA_ a b cI cJ cS cT sx t) (lqB_ a b cI cJ cS cT sx t) lqAn lqBn lqAB dL_law_770 (fun _ _ => ?_)
  refine n_st (st' := [gI ((f_X8_far (xs (i + 1)).toInt sx), sx).1]) rfl ?_
  refine n_aload (pc := 773) E 2 dL_law_773 rfl rfl ?_
  refine n_arg (pc := 774) E hXs hbl hbA hL (i := i) 1 rfl rfl (by omega) dL_law_774 dL_law_775 dL_law_776 dL_law_777 dL_law_778 ?_
  refine n_callG (pc := 779) (np := 1) (As := [gI (xs (i + 1)).toInt]) (st := [gI ((f_X8_far (xs (i + 1)).toInt sx), sx).1]) (q0 := 0) (σ := t) (wr := wdX a cI cJ cS cT ((f_X8_far (xs (i + 1)).toInt sx), sx).2) E (c_X9_far l D b cI cJ cS cT t (xs (i + 1)).toInt (i_rg _) hTD) (hwdM b cI cJ) hRM rfl rfl wn_1186 wn_11 wn_1183 wn_1184 wn_1185 (by decide +kernel) ⟨Nat.le_of_ble_eq_true rfl, Nat.le_of_ble_eq_true rfl⟩ ⟨Nat.le_of_ble_eq_true rfl, Nat.le_of_ble_eq_true rfl⟩ rfl (Nat.le_of_ble_eq_true rfl) lqC lqD (lqC_ a b cI cJ cS cT ((f_X8_far (xs (i + 1)).toInt sx), sx).2 t) (lqD_ a b cI cJ cS cT ((f_X8_far (xs (i + 1)).toInt sx), sx).2 t) lqCn lqDn lqCD dL_law_779 (fun _ _ => ?_)
  refine n_st (st' := [gI ((f_X9_far (xs (i + 1)).toInt t), t).1, gI ((f_X8_far (xs (i + 1)).toInt sx), sx).1]) rfl ?_
  exact n_eq_t (pc := 782) (tgt := 1487) E dL_law_782 (by decide) q.1 (kk _ _ q.2)
end
