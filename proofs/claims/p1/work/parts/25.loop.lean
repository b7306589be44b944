theorem twl_65 : Cond.initialized RX10 ∈ TW := tw_in (List.mem_of_getElem? (i := 65) (by decide +kernel)) (by decide +kernel)
theorem twl_75 : Cond.initialized RX11 ∈ TW := tw_in (List.mem_of_getElem? (i := 75) (by decide +kernel)) (by decide +kernel)
theorem twl_348 : Cond.methodLink RL 13 yX10_reset ∈ TW := tw_in (List.mem_of_getElem? (i := 348) (by decide +kernel)) (by decide +kernel)
theorem twl_349 : Cond.instanceMethod yX10_reset ∈ TW := tw_in (List.mem_of_getElem? (i := 349) (by decide +kernel)) (by decide +kernel)
theorem twl_350 : Cond.selects RX10 yX10_reset yX10_reset ∈ TW := tw_in (List.mem_of_getElem? (i := 350) (by decide +kernel)) (by decide +kernel)
theorem twl_351 : Cond.code yX10_reset cX10_reset 3 (some .int) ∈ TW := tw_in (List.mem_of_getElem? (i := 351) (by decide +kernel)) (by decide +kernel)
theorem twl_371 : Cond.methodLink RL 18 yX10_addEdge ∈ TW := tw_in (List.mem_of_getElem? (i := 371) (by decide +kernel)) (by decide +kernel)
theorem twl_372 : Cond.instanceMethod yX10_addEdge ∈ TW := tw_in (List.mem_of_getElem? (i := 372) (by decide +kernel)) (by decide +kernel)
theorem twl_373 : Cond.selects RX10 yX10_addEdge yX10_addEdge ∈ TW := tw_in (List.mem_of_getElem? (i := 373) (by decide +kernel)) (by decide +kernel)
theorem twl_374 : Cond.code yX10_addEdge cX10_addEdge 3 (some .int) ∈ TW := tw_in (List.mem_of_getElem? (i := 374) (by decide +kernel)) (by decide +kernel)
theorem twl_376 : Cond.methodLink RL 23 yX10_removeEdge ∈ TW := tw_in (List.mem_of_getElem? (i := 376) (by decide +kernel)) (by decide +kernel)
theorem twl_377 : Cond.instanceMethod yX10_removeEdge ∈ TW := tw_in (List.mem_of_getElem? (i := 377) (by decide +kernel)) (by decide +kernel)
theorem twl_378 : Cond.selects RX10 yX10_removeEdge yX10_removeEdge ∈ TW := tw_in (List.mem_of_getElem? (i := 378) (by decide +kernel)) (by decide +kernel)
theorem twl_379 : Cond.code yX10_removeEdge cX10_removeEdge 2 (some .int) ∈ TW := tw_in (List.mem_of_getElem? (i := 379) (by decide +kernel)) (by decide +kernel)
theorem twl_389 : Cond.methodLink RL 27 yX10_setSink ∈ TW := tw_in (List.mem_of_getElem? (i := 389) (by decide +kernel)) (by decide +kernel)
theorem twl_390 : Cond.instanceMethod yX10_setSink ∈ TW := tw_in (List.mem_of_getElem? (i := 390) (by decide +kernel)) (by decide +kernel)
theorem twl_391 : Cond.selects RX10 yX10_setSink yX10_setSink ∈ TW := tw_in (List.mem_of_getElem? (i := 391) (by decide +kernel)) (by decide +kernel)
theorem twl_392 : Cond.code yX10_setSink cX10_setSink 3 (some .int) ∈ TW := tw_in (List.mem_of_getElem? (i := 392) (by decide +kernel)) (by decide +kernel)
theorem twl_393 : Cond.methodLink RL 31 yX10_type ∈ TW := tw_in (List.mem_of_getElem? (i := 393) (by decide +kernel)) (by decide +kernel)
theorem twl_394 : Cond.instanceMethod yX10_type ∈ TW := tw_in (List.mem_of_getElem? (i := 394) (by decide +kernel)) (by decide +kernel)
theorem twl_395 : Cond.selects RX10 yX10_type yX10_type ∈ TW := tw_in (List.mem_of_getElem? (i := 395) (by decide +kernel)) (by decide +kernel)
theorem twl_396 : Cond.code yX10_type cX10_type 2 (some .int) ∈ TW := tw_in (List.mem_of_getElem? (i := 396) (by decide +kernel)) (by decide +kernel)
theorem twl_401 : Cond.methodLink RL 36 yX10_clearText ∈ TW := tw_in (List.mem_of_getElem? (i := 401) (by decide +kernel)) (by decide +kernel)
theorem twl_402 : Cond.instanceMethod yX10_clearText ∈ TW := tw_in (List.mem_of_getElem? (i := 402) (by decide +kernel)) (by decide +kernel)
theorem twl_403 : Cond.selects RX10 yX10_clearText yX10_clearText ∈ TW := tw_in (List.mem_of_getElem? (i := 403) (by decide +kernel)) (by decide +kernel)
theorem twl_404 : Cond.code yX10_clearText cX10_clearText 2 (some .int) ∈ TW := tw_in (List.mem_of_getElem? (i := 404) (by decide +kernel)) (by decide +kernel)
theorem twl_405 : Cond.methodLink RL 41 yX10_readGraph ∈ TW := tw_in (List.mem_of_getElem? (i := 405) (by decide +kernel)) (by decide +kernel)
theorem twl_406 : Cond.instanceMethod yX10_readGraph ∈ TW := tw_in (List.mem_of_getElem? (i := 406) (by decide +kernel)) (by decide +kernel)
theorem twl_407 : Cond.selects RX10 yX10_readGraph yX10_readGraph ∈ TW := tw_in (List.mem_of_getElem? (i := 407) (by decide +kernel)) (by decide +kernel)
theorem twl_408 : Cond.code yX10_readGraph cX10_readGraph 3 (some .int) ∈ TW := tw_in (List.mem_of_getElem? (i := 408) (by decide +kernel)) (by decide +kernel)
theorem twl_496 : Cond.methodLink RL 45 yX10_value ∈ TW := tw_in (List.mem_of_getElem? (i := 496) (by decide +kernel)) (by decide +kernel)
theorem twl_497 : Cond.instanceMethod yX10_value ∈ TW := tw_in (List.mem_of_getElem? (i := 497) (by decide +kernel)) (by decide +kernel)
theorem twl_498 : Cond.selects RX10 yX10_value yX10_value ∈ TW := tw_in (List.mem_of_getElem? (i := 498) (by decide +kernel)) (by decide +kernel)
theorem twl_499 : Cond.code yX10_value cX10_value 2 (some .int) ∈ TW := tw_in (List.mem_of_getElem? (i := 499) (by decide +kernel)) (by decide +kernel)
theorem twl_527 : Cond.methodLink RL 49 yX10_degree ∈ TW := tw_in (List.mem_of_getElem? (i := 527) (by decide +kernel)) (by decide +kernel)
theorem twl_528 : Cond.instanceMethod yX10_degree ∈ TW := tw_in (List.mem_of_getElem? (i := 528) (by decide +kernel)) (by decide +kernel)
theorem twl_529 : Cond.selects RX10 yX10_degree yX10_degree ∈ TW := tw_in (List.mem_of_getElem? (i := 529) (by decide +kernel)) (by decide +kernel)
theorem twl_530 : Cond.code yX10_degree cX10_degree 2 (some .int) ∈ TW := tw_in (List.mem_of_getElem? (i := 530) (by decide +kernel)) (by decide +kernel)
theorem twl_532 : Cond.methodLink RL 53 yX10_edge ∈ TW := tw_in (List.mem_of_getElem? (i := 532) (by decide +kernel)) (by decide +kernel)
theorem twl_533 : Cond.instanceMethod yX10_edge ∈ TW := tw_in (List.mem_of_getElem? (i := 533) (by decide +kernel)) (by decide +kernel)
theorem twl_534 : Cond.selects RX10 yX10_edge yX10_edge ∈ TW := tw_in (List.mem_of_getElem? (i := 534) (by decide +kernel)) (by decide +kernel)
theorem twl_535 : Cond.code yX10_edge cX10_edge 3 (some .int) ∈ TW := tw_in (List.mem_of_getElem? (i := 535) (by decide +kernel)) (by decide +kernel)
theorem twl_536 : Cond.methodLink RL 58 yX10_setChips ∈ TW := tw_in (List.mem_of_getElem? (i := 536) (by decide +kernel)) (by decide +kernel)
theorem twl_537 : Cond.instanceMethod yX10_setChips ∈ TW := tw_in (List.mem_of_getElem? (i := 537) (by decide +kernel)) (by decide +kernel)
theorem twl_538 : Cond.selects RX10 yX10_setChips yX10_setChips ∈ TW := tw_in (List.mem_of_getElem? (i := 538) (by decide +kernel)) (by decide +kernel)
theorem twl_539 : Cond.code yX10_setChips cX10_setChips 4 (some .int) ∈ TW := tw_in (List.mem_of_getElem? (i := 539) (by decide +kernel)) (by decide +kernel)
theorem twl_551 : Cond.methodLink RL 62 yX10_chips ∈ TW := tw_in (List.mem_of_getElem? (i := 551) (by decide +kernel)) (by decide +kernel)
theorem twl_552 : Cond.instanceMethod yX10_chips ∈ TW := tw_in (List.mem_of_getElem? (i := 552) (by decide +kernel)) (by decide +kernel)
theorem twl_553 : Cond.selects RX10 yX10_chips yX10_chips ∈ TW := tw_in (List.mem_of_getElem? (i := 553) (by decide +kernel)) (by decide +kernel)
theorem twl_554 : Cond.code yX10_chips cX10_chips 2 (some .int) ∈ TW := tw_in (List.mem_of_getElem? (i := 554) (by decide +kernel)) (by decide +kernel)
theorem twl_555 : Cond.methodLink RL 66 yX10_fire ∈ TW := tw_in (List.mem_of_getElem? (i := 555) (by decide +kernel)) (by decide +kernel)
theorem twl_556 : Cond.instanceMethod yX10_fire ∈ TW := tw_in (List.mem_of_getElem? (i := 556) (by decide +kernel)) (by decide +kernel)
theorem twl_557 : Cond.selects RX10 yX10_fire yX10_fire ∈ TW := tw_in (List.mem_of_getElem? (i := 557) (by decide +kernel)) (by decide +kernel)
theorem twl_558 : Cond.code yX10_fire cX10_fire 2 (some .int) ∈ TW := tw_in (List.mem_of_getElem? (i := 558) (by decide +kernel)) (by decide +kernel)
theorem twl_574 : Cond.methodLink RL 70 yX10_stabilize ∈ TW := tw_in (List.mem_of_getElem? (i := 574) (by decide +kernel)) (by decide +kernel)
theorem twl_575 : Cond.instanceMethod yX10_stabilize ∈ TW := tw_in (List.mem_of_getElem? (i := 575) (by decide +kernel)) (by decide +kernel)
theorem twl_576 : Cond.selects RX10 yX10_stabilize yX10_stabilize ∈ TW := tw_in (List.mem_of_getElem? (i := 576) (by decide +kernel)) (by decide +kernel)
theorem twl_577 : Cond.code yX10_stabilize cX10_stabilize 1 (some .int) ∈ TW := tw_in (List.mem_of_getElem? (i := 577) (by decide +kernel)) (by decide +kernel)
theorem twl_590 : Cond.methodLink RL 74 yX10_firings ∈ TW := tw_in (List.mem_of_getElem? (i := 590) (by decide +kernel)) (by decide +kernel)
theorem twl_591 : Cond.instanceMethod yX10_firings ∈ TW := tw_in (List.mem_of_getElem? (i := 591) (by decide +kernel)) (by decide +kernel)
theorem twl_592 : Cond.selects RX10 yX10_firings yX10_firings ∈ TW := tw_in (List.mem_of_getElem? (i := 592) (by decide +kernel)) (by decide +kernel)
theorem twl_593 : Cond.code yX10_firings cX10_firings 2 (some .int) ∈ TW := tw_in (List.mem_of_getElem? (i := 593) (by decide +kernel)) (by decide +kernel)
theorem twl_595 : Cond.methodLink RL 78 yX10_reduce ∈ TW := tw_in (List.mem_of_getElem? (i := 595) (by decide +kernel)) (by decide +kernel)
theorem twl_596 : Cond.instanceMethod yX10_reduce ∈ TW := tw_in (List.mem_of_getElem? (i := 596) (by decide +kernel)) (by decide +kernel)
theorem twl_597 : Cond.selects RX10 yX10_reduce yX10_reduce ∈ TW := tw_in (List.mem_of_getElem? (i := 597) (by decide +kernel)) (by decide +kernel)
theorem twl_598 : Cond.code yX10_reduce cX10_reduce 1 (some .int) ∈ TW := tw_in (List.mem_of_getElem? (i := 598) (by decide +kernel)) (by decide +kernel)
theorem twl_628 : Cond.methodLink RL 82 yX10_makeRecurrent ∈ TW := tw_in (List.mem_of_getElem? (i := 628) (by decide +kernel)) (by decide +kernel)
theorem twl_629 : Cond.instanceMethod yX10_makeRecurrent ∈ TW := tw_in (List.mem_of_getElem? (i := 629) (by decide +kernel)) (by decide +kernel)
theorem twl_630 : Cond.selects RX10 yX10_makeRecurrent yX10_makeRecurrent ∈ TW := tw_in (List.mem_of_getElem? (i := 630) (by decide +kernel)) (by decide +kernel)
theorem twl_631 : Cond.code yX10_makeRecurrent cX10_makeRecurrent 1 (some .int) ∈ TW := tw_in (List.mem_of_getElem? (i := 631) (by decide +kernel)) (by decide +kernel)
theorem twl_645 : Cond.methodLink RL 86 yX10_kind ∈ TW := tw_in (List.mem_of_getElem? (i := 645) (by decide +kernel)) (by decide +kernel)
theorem twl_646 : Cond.instanceMethod yX10_kind ∈ TW := tw_in (List.mem_of_getElem? (i := 646) (by decide +kernel)) (by decide +kernel)
theorem twl_647 : Cond.selects RX10 yX10_kind yX10_kind ∈ TW := tw_in (List.mem_of_getElem? (i := 647) (by decide +kernel)) (by decide +kernel)
theorem twl_648 : Cond.code yX10_kind cX10_kind 2 (some .int) ∈ TW := tw_in (List.mem_of_getElem? (i := 648) (by decide +kernel)) (by decide +kernel)
theorem twl_663 : Cond.methodLink RL 90 yX10_burnt ∈ TW := tw_in (List.mem_of_getElem? (i := 663) (by decide +kernel)) (by decide +kernel)
theorem twl_664 : Cond.instanceMethod yX10_burnt ∈ TW := tw_in (List.mem_of_getElem? (i := 664) (by decide +kernel)) (by decide +kernel)
theorem twl_665 : Cond.selects RX10 yX10_burnt yX10_burnt ∈ TW := tw_in (List.mem_of_getElem? (i := 665) (by decide +kernel)) (by decide +kernel)
theorem twl_666 : Cond.code yX10_burnt cX10_burnt 2 (some .int) ∈ TW := tw_in (List.mem_of_getElem? (i := 666) (by decide +kernel)) (by decide +kernel)
theorem twl_668 : Cond.methodLink RL 94 yX10_undo ∈ TW := tw_in (List.mem_of_getElem? (i := 668) (by decide +kernel)) (by decide +kernel)
theorem twl_669 : Cond.instanceMethod yX10_undo ∈ TW := tw_in (List.mem_of_getElem? (i := 669) (by decide +kernel)) (by decide +kernel)
theorem twl_670 : Cond.selects RX10 yX10_undo yX10_undo ∈ TW := tw_in (List.mem_of_getElem? (i := 670) (by decide +kernel)) (by decide +kernel)
theorem twl_671 : Cond.code yX10_undo cX10_undo 1 (some .int) ∈ TW := tw_in (List.mem_of_getElem? (i := 671) (by decide +kernel)) (by decide +kernel)
theorem twl_676 : Cond.methodLink RL 98 yX10_keep ∈ TW := tw_in (List.mem_of_getElem? (i := 676) (by decide +kernel)) (by decide +kernel)
theorem twl_677 : Cond.instanceMethod yX10_keep ∈ TW := tw_in (List.mem_of_getElem? (i := 677) (by decide +kernel)) (by decide +kernel)
theorem twl_678 : Cond.selects RX10 yX10_keep yX10_keep ∈ TW := tw_in (List.mem_of_getElem? (i := 678) (by decide +kernel)) (by decide +kernel)
theorem twl_679 : Cond.code yX10_keep cX10_keep 3 (some .int) ∈ TW := tw_in (List.mem_of_getElem? (i := 679) (by decide +kernel)) (by decide +kernel)
theorem twl_694 : Cond.methodLink RL 102 yX10_load ∈ TW := tw_in (List.mem_of_getElem? (i := 694) (by decide +kernel)) (by decide +kernel)
theorem twl_695 : Cond.instanceMethod yX10_load ∈ TW := tw_in (List.mem_of_getElem? (i := 695) (by decide +kernel)) (by decide +kernel)
theorem twl_696 : Cond.selects RX10 yX10_load yX10_load ∈ TW := tw_in (List.mem_of_getElem? (i := 696) (by decide +kernel)) (by decide +kernel)
theorem twl_697 : Cond.code yX10_load cX10_load 2 (some .int) ∈ TW := tw_in (List.mem_of_getElem? (i := 697) (by decide +kernel)) (by decide +kernel)
theorem twl_702 : Cond.methodLink RL 106 yX10_add ∈ TW := tw_in (List.mem_of_getElem? (i := 702) (by decide +kernel)) (by decide +kernel)
theorem twl_703 : Cond.instanceMethod yX10_add ∈ TW := tw_in (List.mem_of_getElem? (i := 703) (by decide +kernel)) (by decide +kernel)
theorem twl_704 : Cond.selects RX10 yX10_add yX10_add ∈ TW := tw_in (List.mem_of_getElem? (i := 704) (by decide +kernel)) (by decide +kernel)
theorem twl_705 : Cond.code yX10_add cX10_add 3 (some .int) ∈ TW := tw_in (List.mem_of_getElem? (i := 705) (by decide +kernel)) (by decide +kernel)
theorem twl_706 : Cond.methodLink RL 110 yX10_isSameClass ∈ TW := tw_in (List.mem_of_getElem? (i := 706) (by decide +kernel)) (by decide +kernel)
theorem twl_707 : Cond.instanceMethod yX10_isSameClass ∈ TW := tw_in (List.mem_of_getElem? (i := 707) (by decide +kernel)) (by decide +kernel)
theorem twl_708 : Cond.selects RX10 yX10_isSameClass yX10_isSameClass ∈ TW := tw_in (List.mem_of_getElem? (i := 708) (by decide +kernel)) (by decide +kernel)
theorem twl_709 : Cond.code yX10_isSameClass cX10_isSameClass 2 (some .int) ∈ TW := tw_in (List.mem_of_getElem? (i := 709) (by decide +kernel)) (by decide +kernel)
theorem twl_710 : Cond.methodLink RL 114 yX10_treeCount ∈ TW := tw_in (List.mem_of_getElem? (i := 710) (by decide +kernel)) (by decide +kernel)
theorem twl_711 : Cond.instanceMethod yX10_treeCount ∈ TW := tw_in (List.mem_of_getElem? (i := 711) (by decide +kernel)) (by decide +kernel)
theorem twl_712 : Cond.selects RX10 yX10_treeCount yX10_treeCount ∈ TW := tw_in (List.mem_of_getElem? (i := 712) (by decide +kernel)) (by decide +kernel)
theorem twl_713 : Cond.code yX10_treeCount cX10_treeCount 1 (some .long) ∈ TW := tw_in (List.mem_of_getElem? (i := 713) (by decide +kernel)) (by decide +kernel)
theorem twl_740 : Cond.methodLink RL 119 yX10_identity ∈ TW := tw_in (List.mem_of_getElem? (i := 740) (by decide +kernel)) (by decide +kernel)
theorem twl_741 : Cond.instanceMethod yX10_identity ∈ TW := tw_in (List.mem_of_getElem? (i := 741) (by decide +kernel)) (by decide +kernel)
theorem twl_742 : Cond.selects RX10 yX10_identity yX10_identity ∈ TW := tw_in (List.mem_of_getElem? (i := 742) (by decide +kernel)) (by decide +kernel)
theorem twl_743 : Cond.code yX10_identity cX10_identity 2 (some .int) ∈ TW := tw_in (List.mem_of_getElem? (i := 743) (by decide +kernel)) (by decide +kernel)
theorem twl_744 : Cond.methodLink RL 123 yX10_order ∈ TW := tw_in (List.mem_of_getElem? (i := 744) (by decide +kernel)) (by decide +kernel)
theorem twl_745 : Cond.instanceMethod yX10_order ∈ TW := tw_in (List.mem_of_getElem? (i := 745) (by decide +kernel)) (by decide +kernel)
theorem twl_746 : Cond.selects RX10 yX10_order yX10_order ∈ TW := tw_in (List.mem_of_getElem? (i := 746) (by decide +kernel)) (by decide +kernel)
theorem twl_747 : Cond.code yX10_order cX10_order 1 (some .int) ∈ TW := tw_in (List.mem_of_getElem? (i := 747) (by decide +kernel)) (by decide +kernel)
theorem twl_766 : Cond.methodLink RL 127 yX10_factor ∈ TW := tw_in (List.mem_of_getElem? (i := 766) (by decide +kernel)) (by decide +kernel)
theorem twl_767 : Cond.instanceMethod yX10_factor ∈ TW := tw_in (List.mem_of_getElem? (i := 767) (by decide +kernel)) (by decide +kernel)
theorem twl_768 : Cond.selects RX10 yX10_factor yX10_factor ∈ TW := tw_in (List.mem_of_getElem? (i := 768) (by decide +kernel)) (by decide +kernel)
theorem twl_769 : Cond.code yX10_factor cX10_factor 2 (some .long) ∈ TW := tw_in (List.mem_of_getElem? (i := 769) (by decide +kernel)) (by decide +kernel)
theorem twl_814 : Cond.methodLink RL 132 yX10_level ∈ TW := tw_in (List.mem_of_getElem? (i := 814) (by decide +kernel)) (by decide +kernel)
theorem twl_815 : Cond.instanceMethod yX10_level ∈ TW := tw_in (List.mem_of_getElem? (i := 815) (by decide +kernel)) (by decide +kernel)
theorem twl_816 : Cond.selects RX10 yX10_level yX10_level ∈ TW := tw_in (List.mem_of_getElem? (i := 816) (by decide +kernel)) (by decide +kernel)
theorem twl_817 : Cond.code yX10_level cX10_level 1 (some .int) ∈ TW := tw_in (List.mem_of_getElem? (i := 817) (by decide +kernel)) (by decide +kernel)
theorem twl_818 : Cond.methodLink RL 136 yX10_levelCount ∈ TW := tw_in (List.mem_of_getElem? (i := 818) (by decide +kernel)) (by decide +kernel)
theorem twl_819 : Cond.instanceMethod yX10_levelCount ∈ TW := tw_in (List.mem_of_getElem? (i := 819) (by decide +kernel)) (by decide +kernel)
theorem twl_820 : Cond.selects RX10 yX10_levelCount yX10_levelCount ∈ TW := tw_in (List.mem_of_getElem? (i := 820) (by decide +kernel)) (by decide +kernel)
theorem twl_821 : Cond.code yX10_levelCount cX10_levelCount 2 (some .int) ∈ TW := tw_in (List.mem_of_getElem? (i := 821) (by decide +kernel)) (by decide +kernel)
theorem twl_841 : Cond.methodLink RL 140 yX10_tree ∈ TW := tw_in (List.mem_of_getElem? (i := 841) (by decide +kernel)) (by decide +kernel)
theorem twl_842 : Cond.instanceMethod yX10_tree ∈ TW := tw_in (List.mem_of_getElem? (i := 842) (by decide +kernel)) (by decide +kernel)
theorem twl_843 : Cond.selects RX10 yX10_tree yX10_tree ∈ TW := tw_in (List.mem_of_getElem? (i := 843) (by decide +kernel)) (by decide +kernel)
theorem twl_844 : Cond.code yX10_tree cX10_tree 1 (some .int) ∈ TW := tw_in (List.mem_of_getElem? (i := 844) (by decide +kernel)) (by decide +kernel)
theorem twl_863 : Cond.methodLink RL 144 yX10_takeTree ∈ TW := tw_in (List.mem_of_getElem? (i := 863) (by decide +kernel)) (by decide +kernel)
theorem twl_864 : Cond.instanceMethod yX10_takeTree ∈ TW := tw_in (List.mem_of_getElem? (i := 864) (by decide +kernel)) (by decide +kernel)
theorem twl_865 : Cond.selects RX10 yX10_takeTree yX10_takeTree ∈ TW := tw_in (List.mem_of_getElem? (i := 865) (by decide +kernel)) (by decide +kernel)
theorem twl_866 : Cond.code yX10_takeTree cX10_takeTree 2 (some .int) ∈ TW := tw_in (List.mem_of_getElem? (i := 866) (by decide +kernel)) (by decide +kernel)
theorem twl_881 : Cond.methodLink RL 148 yX10_treeAt ∈ TW := tw_in (List.mem_of_getElem? (i := 881) (by decide +kernel)) (by decide +kernel)
theorem twl_882 : Cond.instanceMethod yX10_treeAt ∈ TW := tw_in (List.mem_of_getElem? (i := 882) (by decide +kernel)) (by decide +kernel)
theorem twl_883 : Cond.selects RX10 yX10_treeAt yX10_treeAt ∈ TW := tw_in (List.mem_of_getElem? (i := 883) (by decide +kernel)) (by decide +kernel)
theorem twl_884 : Cond.code yX10_treeAt cX10_treeAt 2 (some .int) ∈ TW := tw_in (List.mem_of_getElem? (i := 884) (by decide +kernel)) (by decide +kernel)
theorem twl_981 : Cond.methodLink RL 17 yX11_reset ∈ TW := tw_in (List.mem_of_getElem? (i := 981) (by decide +kernel)) (by decide +kernel)
theorem twl_982 : Cond.instanceMethod yX11_reset ∈ TW := tw_in (List.mem_of_getElem? (i := 982) (by decide +kernel)) (by decide +kernel)
theorem twl_983 : Cond.selects RX11 yX11_reset yX11_reset ∈ TW := tw_in (List.mem_of_getElem? (i := 983) (by decide +kernel)) (by decide +kernel)
theorem twl_984 : Cond.code yX11_reset cX11_reset 3 (some .int) ∈ TW := tw_in (List.mem_of_getElem? (i := 984) (by decide +kernel)) (by decide +kernel)
theorem twl_988 : Cond.methodLink RL 22 yX11_addEdge ∈ TW := tw_in (List.mem_of_getElem? (i := 988) (by decide +kernel)) (by decide +kernel)
theorem twl_989 : Cond.instanceMethod yX11_addEdge ∈ TW := tw_in (List.mem_of_getElem? (i := 989) (by decide +kernel)) (by decide +kernel)
theorem twl_990 : Cond.selects RX11 yX11_addEdge yX11_addEdge ∈ TW := tw_in (List.mem_of_getElem? (i := 990) (by decide +kernel)) (by decide +kernel)
theorem twl_991 : Cond.code yX11_addEdge cX11_addEdge 3 (some .int) ∈ TW := tw_in (List.mem_of_getElem? (i := 991) (by decide +kernel)) (by decide +kernel)
theorem twl_996 : Cond.methodLink RL 26 yX11_removeEdge ∈ TW := tw_in (List.mem_of_getElem? (i := 996) (by decide +kernel)) (by decide +kernel)
theorem twl_997 : Cond.instanceMethod yX11_removeEdge ∈ TW := tw_in (List.mem_of_getElem? (i := 997) (by decide +kernel)) (by decide +kernel)
theorem twl_998 : Cond.selects RX11 yX11_removeEdge yX11_removeEdge ∈ TW := tw_in (List.mem_of_getElem? (i := 998) (by decide +kernel)) (by decide +kernel)
theorem twl_999 : Cond.code yX11_removeEdge cX11_removeEdge 3 (some .int) ∈ TW := tw_in (List.mem_of_getElem? (i := 999) (by decide +kernel)) (by decide +kernel)
theorem twl_1000 : Cond.methodLink RL 30 yX11_setSink ∈ TW := tw_in (List.mem_of_getElem? (i := 1000) (by decide +kernel)) (by decide +kernel)
theorem twl_1001 : Cond.instanceMethod yX11_setSink ∈ TW := tw_in (List.mem_of_getElem? (i := 1001) (by decide +kernel)) (by decide +kernel)
theorem twl_1002 : Cond.selects RX11 yX11_setSink yX11_setSink ∈ TW := tw_in (List.mem_of_getElem? (i := 1002) (by decide +kernel)) (by decide +kernel)
theorem twl_1003 : Cond.code yX11_setSink cX11_setSink 3 (some .int) ∈ TW := tw_in (List.mem_of_getElem? (i := 1003) (by decide +kernel)) (by decide +kernel)
theorem twl_1004 : Cond.methodLink RL 35 yX11_type ∈ TW := tw_in (List.mem_of_getElem? (i := 1004) (by decide +kernel)) (by decide +kernel)
theorem twl_1005 : Cond.instanceMethod yX11_type ∈ TW := tw_in (List.mem_of_getElem? (i := 1005) (by decide +kernel)) (by decide +kernel)
theorem twl_1006 : Cond.selects RX11 yX11_type yX11_type ∈ TW := tw_in (List.mem_of_getElem? (i := 1006) (by decide +kernel)) (by decide +kernel)
theorem twl_1007 : Cond.code yX11_type cX11_type 2 (some .int) ∈ TW := tw_in (List.mem_of_getElem? (i := 1007) (by decide +kernel)) (by decide +kernel)
theorem twl_1008 : Cond.methodLink RL 40 yX11_clearText ∈ TW := tw_in (List.mem_of_getElem? (i := 1008) (by decide +kernel)) (by decide +kernel)
theorem twl_1009 : Cond.instanceMethod yX11_clearText ∈ TW := tw_in (List.mem_of_getElem? (i := 1009) (by decide +kernel)) (by decide +kernel)
theorem twl_1010 : Cond.selects RX11 yX11_clearText yX11_clearText ∈ TW := tw_in (List.mem_of_getElem? (i := 1010) (by decide +kernel)) (by decide +kernel)
theorem twl_1011 : Cond.code yX11_clearText cX11_clearText 2 (some .int) ∈ TW := tw_in (List.mem_of_getElem? (i := 1011) (by decide +kernel)) (by decide +kernel)
theorem twl_1012 : Cond.methodLink RL 44 yX11_readGraph ∈ TW := tw_in (List.mem_of_getElem? (i := 1012) (by decide +kernel)) (by decide +kernel)
theorem twl_1013 : Cond.instanceMethod yX11_readGraph ∈ TW := tw_in (List.mem_of_getElem? (i := 1013) (by decide +kernel)) (by decide +kernel)
theorem twl_1014 : Cond.selects RX11 yX11_readGraph yX11_readGraph ∈ TW := tw_in (List.mem_of_getElem? (i := 1014) (by decide +kernel)) (by decide +kernel)
theorem twl_1015 : Cond.code yX11_readGraph cX11_readGraph 5 (some .int) ∈ TW := tw_in (List.mem_of_getElem? (i := 1015) (by decide +kernel)) (by decide +kernel)
theorem twl_1028 : Cond.methodLink RL 48 yX11_value ∈ TW := tw_in (List.mem_of_getElem? (i := 1028) (by decide +kernel)) (by decide +kernel)
theorem twl_1029 : Cond.instanceMethod yX11_value ∈ TW := tw_in (List.mem_of_getElem? (i := 1029) (by decide +kernel)) (by decide +kernel)
theorem twl_1030 : Cond.selects RX11 yX11_value yX11_value ∈ TW := tw_in (List.mem_of_getElem? (i := 1030) (by decide +kernel)) (by decide +kernel)
theorem twl_1031 : Cond.code yX11_value cX11_value 2 (some .int) ∈ TW := tw_in (List.mem_of_getElem? (i := 1031) (by decide +kernel)) (by decide +kernel)
theorem twl_1044 : Cond.methodLink RL 52 yX11_degree ∈ TW := tw_in (List.mem_of_getElem? (i := 1044) (by decide +kernel)) (by decide +kernel)
theorem twl_1045 : Cond.instanceMethod yX11_degree ∈ TW := tw_in (List.mem_of_getElem? (i := 1045) (by decide +kernel)) (by decide +kernel)
theorem twl_1046 : Cond.selects RX11 yX11_degree yX11_degree ∈ TW := tw_in (List.mem_of_getElem? (i := 1046) (by decide +kernel)) (by decide +kernel)
theorem twl_1047 : Cond.code yX11_degree cX11_degree 2 (some .int) ∈ TW := tw_in (List.mem_of_getElem? (i := 1047) (by decide +kernel)) (by decide +kernel)
theorem twl_1048 : Cond.methodLink RL 57 yX11_edge ∈ TW := tw_in (List.mem_of_getElem? (i := 1048) (by decide +kernel)) (by decide +kernel)
theorem twl_1049 : Cond.instanceMethod yX11_edge ∈ TW := tw_in (List.mem_of_getElem? (i := 1049) (by decide +kernel)) (by decide +kernel)
theorem twl_1050 : Cond.selects RX11 yX11_edge yX11_edge ∈ TW := tw_in (List.mem_of_getElem? (i := 1050) (by decide +kernel)) (by decide +kernel)
theorem twl_1051 : Cond.code yX11_edge cX11_edge 3 (some .int) ∈ TW := tw_in (List.mem_of_getElem? (i := 1051) (by decide +kernel)) (by decide +kernel)
theorem twl_1052 : Cond.methodLink RL 97 yX11_undo ∈ TW := tw_in (List.mem_of_getElem? (i := 1052) (by decide +kernel)) (by decide +kernel)
theorem twl_1053 : Cond.instanceMethod yX11_undo ∈ TW := tw_in (List.mem_of_getElem? (i := 1053) (by decide +kernel)) (by decide +kernel)
theorem twl_1054 : Cond.selects RX11 yX11_undo yX11_undo ∈ TW := tw_in (List.mem_of_getElem? (i := 1054) (by decide +kernel)) (by decide +kernel)
theorem twl_1055 : Cond.code yX11_undo cX11_undo 2 (some .int) ∈ TW := tw_in (List.mem_of_getElem? (i := 1055) (by decide +kernel)) (by decide +kernel)
theorem twl_1056 : Cond.methodLink RL 61 yX11_setChips ∈ TW := tw_in (List.mem_of_getElem? (i := 1056) (by decide +kernel)) (by decide +kernel)
theorem twl_1057 : Cond.instanceMethod yX11_setChips ∈ TW := tw_in (List.mem_of_getElem? (i := 1057) (by decide +kernel)) (by decide +kernel)
theorem twl_1058 : Cond.selects RX11 yX11_setChips yX11_setChips ∈ TW := tw_in (List.mem_of_getElem? (i := 1058) (by decide +kernel)) (by decide +kernel)
theorem twl_1059 : Cond.code yX11_setChips cX11_setChips 4 (some .int) ∈ TW := tw_in (List.mem_of_getElem? (i := 1059) (by decide +kernel)) (by decide +kernel)
theorem twl_1068 : Cond.methodLink RL 65 yX11_chips ∈ TW := tw_in (List.mem_of_getElem? (i := 1068) (by decide +kernel)) (by decide +kernel)
theorem twl_1069 : Cond.instanceMethod yX11_chips ∈ TW := tw_in (List.mem_of_getElem? (i := 1069) (by decide +kernel)) (by decide +kernel)
theorem twl_1070 : Cond.selects RX11 yX11_chips yX11_chips ∈ TW := tw_in (List.mem_of_getElem? (i := 1070) (by decide +kernel)) (by decide +kernel)
theorem twl_1071 : Cond.code yX11_chips cX11_chips 2 (some .int) ∈ TW := tw_in (List.mem_of_getElem? (i := 1071) (by decide +kernel)) (by decide +kernel)
theorem twl_1072 : Cond.methodLink RL 69 yX11_fire ∈ TW := tw_in (List.mem_of_getElem? (i := 1072) (by decide +kernel)) (by decide +kernel)
theorem twl_1073 : Cond.instanceMethod yX11_fire ∈ TW := tw_in (List.mem_of_getElem? (i := 1073) (by decide +kernel)) (by decide +kernel)
theorem twl_1074 : Cond.selects RX11 yX11_fire yX11_fire ∈ TW := tw_in (List.mem_of_getElem? (i := 1074) (by decide +kernel)) (by decide +kernel)
theorem twl_1075 : Cond.code yX11_fire cX11_fire 2 (some .int) ∈ TW := tw_in (List.mem_of_getElem? (i := 1075) (by decide +kernel)) (by decide +kernel)
theorem twl_1084 : Cond.methodLink RL 73 yX11_stabilize ∈ TW := tw_in (List.mem_of_getElem? (i := 1084) (by decide +kernel)) (by decide +kernel)
theorem twl_1085 : Cond.instanceMethod yX11_stabilize ∈ TW := tw_in (List.mem_of_getElem? (i := 1085) (by decide +kernel)) (by decide +kernel)
theorem twl_1086 : Cond.selects RX11 yX11_stabilize yX11_stabilize ∈ TW := tw_in (List.mem_of_getElem? (i := 1086) (by decide +kernel)) (by decide +kernel)
theorem twl_1087 : Cond.code yX11_stabilize cX11_stabilize 1 (some .int) ∈ TW := tw_in (List.mem_of_getElem? (i := 1087) (by decide +kernel)) (by decide +kernel)
theorem twl_1092 : Cond.methodLink RL 77 yX11_firings ∈ TW := tw_in (List.mem_of_getElem? (i := 1092) (by decide +kernel)) (by decide +kernel)
theorem twl_1093 : Cond.instanceMethod yX11_firings ∈ TW := tw_in (List.mem_of_getElem? (i := 1093) (by decide +kernel)) (by decide +kernel)
theorem twl_1094 : Cond.selects RX11 yX11_firings yX11_firings ∈ TW := tw_in (List.mem_of_getElem? (i := 1094) (by decide +kernel)) (by decide +kernel)
theorem twl_1095 : Cond.code yX11_firings cX11_firings 2 (some .int) ∈ TW := tw_in (List.mem_of_getElem? (i := 1095) (by decide +kernel)) (by decide +kernel)
theorem twl_1100 : Cond.methodLink RL 81 yX11_reduce ∈ TW := tw_in (List.mem_of_getElem? (i := 1100) (by decide +kernel)) (by decide +kernel)
theorem twl_1101 : Cond.instanceMethod yX11_reduce ∈ TW := tw_in (List.mem_of_getElem? (i := 1101) (by decide +kernel)) (by decide +kernel)
theorem twl_1102 : Cond.selects RX11 yX11_reduce yX11_reduce ∈ TW := tw_in (List.mem_of_getElem? (i := 1102) (by decide +kernel)) (by decide +kernel)
theorem twl_1103 : Cond.code yX11_reduce cX11_reduce 1 (some .int) ∈ TW := tw_in (List.mem_of_getElem? (i := 1103) (by decide +kernel)) (by decide +kernel)
theorem twl_1120 : Cond.methodLink RL 85 yX11_makeRecurrent ∈ TW := tw_in (List.mem_of_getElem? (i := 1120) (by decide +kernel)) (by decide +kernel)
theorem twl_1121 : Cond.instanceMethod yX11_makeRecurrent ∈ TW := tw_in (List.mem_of_getElem? (i := 1121) (by decide +kernel)) (by decide +kernel)
theorem twl_1122 : Cond.selects RX11 yX11_makeRecurrent yX11_makeRecurrent ∈ TW := tw_in (List.mem_of_getElem? (i := 1122) (by decide +kernel)) (by decide +kernel)
theorem twl_1123 : Cond.code yX11_makeRecurrent cX11_makeRecurrent 1 (some .int) ∈ TW := tw_in (List.mem_of_getElem? (i := 1123) (by decide +kernel)) (by decide +kernel)
theorem twl_1131 : Cond.methodLink RL 89 yX11_kind ∈ TW := tw_in (List.mem_of_getElem? (i := 1131) (by decide +kernel)) (by decide +kernel)
theorem twl_1132 : Cond.instanceMethod yX11_kind ∈ TW := tw_in (List.mem_of_getElem? (i := 1132) (by decide +kernel)) (by decide +kernel)
theorem twl_1133 : Cond.selects RX11 yX11_kind yX11_kind ∈ TW := tw_in (List.mem_of_getElem? (i := 1133) (by decide +kernel)) (by decide +kernel)
theorem twl_1134 : Cond.code yX11_kind cX11_kind 1 (some .int) ∈ TW := tw_in (List.mem_of_getElem? (i := 1134) (by decide +kernel)) (by decide +kernel)
theorem twl_1147 : Cond.methodLink RL 93 yX11_burnt ∈ TW := tw_in (List.mem_of_getElem? (i := 1147) (by decide +kernel)) (by decide +kernel)
theorem twl_1148 : Cond.instanceMethod yX11_burnt ∈ TW := tw_in (List.mem_of_getElem? (i := 1148) (by decide +kernel)) (by decide +kernel)
theorem twl_1149 : Cond.selects RX11 yX11_burnt yX11_burnt ∈ TW := tw_in (List.mem_of_getElem? (i := 1149) (by decide +kernel)) (by decide +kernel)
theorem twl_1150 : Cond.code yX11_burnt cX11_burnt 2 (some .int) ∈ TW := tw_in (List.mem_of_getElem? (i := 1150) (by decide +kernel)) (by decide +kernel)
theorem twl_1151 : Cond.methodLink RL 101 yX11_keep ∈ TW := tw_in (List.mem_of_getElem? (i := 1151) (by decide +kernel)) (by decide +kernel)
theorem twl_1152 : Cond.instanceMethod yX11_keep ∈ TW := tw_in (List.mem_of_getElem? (i := 1152) (by decide +kernel)) (by decide +kernel)
theorem twl_1153 : Cond.selects RX11 yX11_keep yX11_keep ∈ TW := tw_in (List.mem_of_getElem? (i := 1153) (by decide +kernel)) (by decide +kernel)
theorem twl_1154 : Cond.code yX11_keep cX11_keep 4 (some .int) ∈ TW := tw_in (List.mem_of_getElem? (i := 1154) (by decide +kernel)) (by decide +kernel)
theorem twl_1158 : Cond.methodLink RL 105 yX11_load ∈ TW := tw_in (List.mem_of_getElem? (i := 1158) (by decide +kernel)) (by decide +kernel)
theorem twl_1159 : Cond.instanceMethod yX11_load ∈ TW := tw_in (List.mem_of_getElem? (i := 1159) (by decide +kernel)) (by decide +kernel)
theorem twl_1160 : Cond.selects RX11 yX11_load yX11_load ∈ TW := tw_in (List.mem_of_getElem? (i := 1160) (by decide +kernel)) (by decide +kernel)
theorem twl_1161 : Cond.code yX11_load cX11_load 3 (some .int) ∈ TW := tw_in (List.mem_of_getElem? (i := 1161) (by decide +kernel)) (by decide +kernel)
theorem twl_1162 : Cond.methodLink RL 109 yX11_add ∈ TW := tw_in (List.mem_of_getElem? (i := 1162) (by decide +kernel)) (by decide +kernel)
theorem twl_1163 : Cond.instanceMethod yX11_add ∈ TW := tw_in (List.mem_of_getElem? (i := 1163) (by decide +kernel)) (by decide +kernel)
theorem twl_1164 : Cond.selects RX11 yX11_add yX11_add ∈ TW := tw_in (List.mem_of_getElem? (i := 1164) (by decide +kernel)) (by decide +kernel)
theorem twl_1165 : Cond.code yX11_add cX11_add 3 (some .int) ∈ TW := tw_in (List.mem_of_getElem? (i := 1165) (by decide +kernel)) (by decide +kernel)
theorem twl_1166 : Cond.methodLink RL 113 yX11_isSameClass ∈ TW := tw_in (List.mem_of_getElem? (i := 1166) (by decide +kernel)) (by decide +kernel)
theorem twl_1167 : Cond.instanceMethod yX11_isSameClass ∈ TW := tw_in (List.mem_of_getElem? (i := 1167) (by decide +kernel)) (by decide +kernel)
theorem twl_1168 : Cond.selects RX11 yX11_isSameClass yX11_isSameClass ∈ TW := tw_in (List.mem_of_getElem? (i := 1168) (by decide +kernel)) (by decide +kernel)
theorem twl_1169 : Cond.code yX11_isSameClass cX11_isSameClass 3 (some .int) ∈ TW := tw_in (List.mem_of_getElem? (i := 1169) (by decide +kernel)) (by decide +kernel)
theorem twl_1170 : Cond.methodLink RL 118 yX11_treeCount ∈ TW := tw_in (List.mem_of_getElem? (i := 1170) (by decide +kernel)) (by decide +kernel)
theorem twl_1171 : Cond.instanceMethod yX11_treeCount ∈ TW := tw_in (List.mem_of_getElem? (i := 1171) (by decide +kernel)) (by decide +kernel)
theorem twl_1172 : Cond.selects RX11 yX11_treeCount yX11_treeCount ∈ TW := tw_in (List.mem_of_getElem? (i := 1172) (by decide +kernel)) (by decide +kernel)
theorem twl_1173 : Cond.code yX11_treeCount cX11_treeCount 4 (some .long) ∈ TW := tw_in (List.mem_of_getElem? (i := 1173) (by decide +kernel)) (by decide +kernel)
theorem twl_1202 : Cond.methodLink RL 131 yX11_factor ∈ TW := tw_in (List.mem_of_getElem? (i := 1202) (by decide +kernel)) (by decide +kernel)
theorem twl_1203 : Cond.instanceMethod yX11_factor ∈ TW := tw_in (List.mem_of_getElem? (i := 1203) (by decide +kernel)) (by decide +kernel)
theorem twl_1204 : Cond.selects RX11 yX11_factor yX11_factor ∈ TW := tw_in (List.mem_of_getElem? (i := 1204) (by decide +kernel)) (by decide +kernel)
theorem twl_1205 : Cond.code yX11_factor cX11_factor 6 (some .long) ∈ TW := tw_in (List.mem_of_getElem? (i := 1205) (by decide +kernel)) (by decide +kernel)
theorem twl_1210 : Cond.methodLink RL 122 yX11_identity ∈ TW := tw_in (List.mem_of_getElem? (i := 1210) (by decide +kernel)) (by decide +kernel)
theorem twl_1211 : Cond.instanceMethod yX11_identity ∈ TW := tw_in (List.mem_of_getElem? (i := 1211) (by decide +kernel)) (by decide +kernel)
theorem twl_1212 : Cond.selects RX11 yX11_identity yX11_identity ∈ TW := tw_in (List.mem_of_getElem? (i := 1212) (by decide +kernel)) (by decide +kernel)
theorem twl_1213 : Cond.code yX11_identity cX11_identity 3 (some .int) ∈ TW := tw_in (List.mem_of_getElem? (i := 1213) (by decide +kernel)) (by decide +kernel)
theorem twl_1214 : Cond.methodLink RL 126 yX11_order ∈ TW := tw_in (List.mem_of_getElem? (i := 1214) (by decide +kernel)) (by decide +kernel)
theorem twl_1215 : Cond.instanceMethod yX11_order ∈ TW := tw_in (List.mem_of_getElem? (i := 1215) (by decide +kernel)) (by decide +kernel)
theorem twl_1216 : Cond.selects RX11 yX11_order yX11_order ∈ TW := tw_in (List.mem_of_getElem? (i := 1216) (by decide +kernel)) (by decide +kernel)
theorem twl_1217 : Cond.code yX11_order cX11_order 4 (some .int) ∈ TW := tw_in (List.mem_of_getElem? (i := 1217) (by decide +kernel)) (by decide +kernel)
theorem twl_1221 : Cond.methodLink RL 135 yX11_level ∈ TW := tw_in (List.mem_of_getElem? (i := 1221) (by decide +kernel)) (by decide +kernel)
theorem twl_1222 : Cond.instanceMethod yX11_level ∈ TW := tw_in (List.mem_of_getElem? (i := 1222) (by decide +kernel)) (by decide +kernel)
theorem twl_1223 : Cond.selects RX11 yX11_level yX11_level ∈ TW := tw_in (List.mem_of_getElem? (i := 1223) (by decide +kernel)) (by decide +kernel)
theorem twl_1224 : Cond.code yX11_level cX11_level 1 (some .int) ∈ TW := tw_in (List.mem_of_getElem? (i := 1224) (by decide +kernel)) (by decide +kernel)
theorem twl_1225 : Cond.methodLink RL 139 yX11_levelCount ∈ TW := tw_in (List.mem_of_getElem? (i := 1225) (by decide +kernel)) (by decide +kernel)
theorem twl_1226 : Cond.instanceMethod yX11_levelCount ∈ TW := tw_in (List.mem_of_getElem? (i := 1226) (by decide +kernel)) (by decide +kernel)
theorem twl_1227 : Cond.selects RX11 yX11_levelCount yX11_levelCount ∈ TW := tw_in (List.mem_of_getElem? (i := 1227) (by decide +kernel)) (by decide +kernel)
theorem twl_1228 : Cond.code yX11_levelCount cX11_levelCount 2 (some .int) ∈ TW := tw_in (List.mem_of_getElem? (i := 1228) (by decide +kernel)) (by decide +kernel)
theorem twl_1233 : Cond.methodLink RL 143 yX11_tree ∈ TW := tw_in (List.mem_of_getElem? (i := 1233) (by decide +kernel)) (by decide +kernel)
theorem twl_1234 : Cond.instanceMethod yX11_tree ∈ TW := tw_in (List.mem_of_getElem? (i := 1234) (by decide +kernel)) (by decide +kernel)
theorem twl_1235 : Cond.selects RX11 yX11_tree yX11_tree ∈ TW := tw_in (List.mem_of_getElem? (i := 1235) (by decide +kernel)) (by decide +kernel)
theorem twl_1236 : Cond.code yX11_tree cX11_tree 1 (some .int) ∈ TW := tw_in (List.mem_of_getElem? (i := 1236) (by decide +kernel)) (by decide +kernel)
theorem twl_1241 : Cond.methodLink RL 147 yX11_takeTree ∈ TW := tw_in (List.mem_of_getElem? (i := 1241) (by decide +kernel)) (by decide +kernel)
theorem twl_1242 : Cond.instanceMethod yX11_takeTree ∈ TW := tw_in (List.mem_of_getElem? (i := 1242) (by decide +kernel)) (by decide +kernel)
theorem twl_1243 : Cond.selects RX11 yX11_takeTree yX11_takeTree ∈ TW := tw_in (List.mem_of_getElem? (i := 1243) (by decide +kernel)) (by decide +kernel)
theorem twl_1244 : Cond.code yX11_takeTree cX11_takeTree 3 (some .int) ∈ TW := tw_in (List.mem_of_getElem? (i := 1244) (by decide +kernel)) (by decide +kernel)
theorem twl_1252 : Cond.methodLink RL 151 yX11_treeAt ∈ TW := tw_in (List.mem_of_getElem? (i := 1252) (by decide +kernel)) (by decide +kernel)
theorem twl_1253 : Cond.instanceMethod yX11_treeAt ∈ TW := tw_in (List.mem_of_getElem? (i := 1253) (by decide +kernel)) (by decide +kernel)
theorem twl_1254 : Cond.selects RX11 yX11_treeAt yX11_treeAt ∈ TW := tw_in (List.mem_of_getElem? (i := 1254) (by decide +kernel)) (by decide +kernel)
theorem twl_1255 : Cond.code yX11_treeAt cX11_treeAt 6 (some .int) ∈ TW := tw_in (List.mem_of_getElem? (i := 1255) (by decide +kernel)) (by decide +kernel)
theorem dL_law_18 : decode cL_law 18 = .ok (.iload_n 3, 1) := by decide +kernel
theorem dL_law_19 : decode cL_law 19 = .ok (.aload_n 0, 1) := by decide +kernel
theorem dL_law_20 : decode cL_law 20 = .ok (.arraylength, 1) := by decide +kernel
theorem dL_law_21 : decode cL_law 21 = .ok (.iconst 3, 1) := by decide +kernel
theorem dL_law_22 : decode cL_law 22 = .ok (.isub, 1) := by decide +kernel
theorem dL_law_23 : decode cL_law 23 = .ok (.if_icmp .gt 862, 3) := by decide +kernel
theorem dL_law_26 : decode cL_law 26 = .ok (.aload_n 0, 1) := by decide +kernel
theorem dL_law_27 : decode cL_law 27 = .ok (.iload_n 3, 1) := by decide +kernel
theorem dL_law_28 : decode cL_law 28 = .ok (.iaload, 1) := by decide +kernel
theorem dL_law_29 : decode cL_law 29 = .ok (.bipush 63, 2) := by decide +kernel
theorem dL_law_31 : decode cL_law 31 = .ok (.iand, 1) := by decide +kernel
theorem dL_law_32 : decode cL_law 32 = .ok (.tableswitch 847 0 32 #[148, 171, 204, 227, 250, 275, 288, 301, 324, 347, 396, 429, 452, 475, 488, 511, 524, 537, 550, 573, 586, 609, 632, 655, 678, 692, 715, 728, 752, 765, 788, 801, 824], 148) := by decide +kernel
theorem dL_law_180 : decode cL_law 180 = .ok (.aload_n 1, 1) := by decide +kernel
theorem dL_law_181 : decode cL_law 181 = .ok (.aload_n 0, 1) := by decide +kernel
theorem dL_law_182 : decode cL_law 182 = .ok (.iload_n 3, 1) := by decide +kernel
theorem dL_law_183 : decode cL_law 183 = .ok (.iconst 1, 1) := by decide +kernel
theorem dL_law_184 : decode cL_law 184 = .ok (.iadd, 1) := by decide +kernel
theorem dL_law_185 : decode cL_law 185 = .ok (.iaload, 1) := by decide +kernel
theorem dL_law_186 : decode cL_law 186 = .ok (.invokevirtual 13, 3) := by decide +kernel
theorem dL_law_189 : decode cL_law 189 = .ok (.aload_n 2, 1) := by decide +kernel
theorem dL_law_190 : decode cL_law 190 = .ok (.aload_n 0, 1) := by decide +kernel
theorem dL_law_191 : decode cL_law 191 = .ok (.iload_n 3, 1) := by decide +kernel
theorem dL_law_192 : decode cL_law 192 = .ok (.iconst 1, 1) := by decide +kernel
theorem dL_law_193 : decode cL_law 193 = .ok (.iadd, 1) := by decide +kernel
theorem dL_law_194 : decode cL_law 194 = .ok (.iaload, 1) := by decide +kernel
theorem dL_law_195 : decode cL_law 195 = .ok (.invokevirtual 17, 3) := by decide +kernel
theorem dL_law_198 : decode cL_law 198 = .ok (.if_icmp .eq 681, 3) := by decide +kernel
theorem dL_law_203 : decode cL_law 203 = .ok (.aload_n 1, 1) := by decide +kernel
theorem dL_law_204 : decode cL_law 204 = .ok (.aload_n 0, 1) := by decide +kernel
theorem dL_law_205 : decode cL_law 205 = .ok (.iload_n 3, 1) := by decide +kernel
theorem dL_law_206 : decode cL_law 206 = .ok (.iconst 1, 1) := by decide +kernel
theorem dL_law_207 : decode cL_law 207 = .ok (.iadd, 1) := by decide +kernel
theorem dL_law_208 : decode cL_law 208 = .ok (.iaload, 1) := by decide +kernel
theorem dL_law_209 : decode cL_law 209 = .ok (.aload_n 0, 1) := by decide +kernel
theorem dL_law_210 : decode cL_law 210 = .ok (.iload_n 3, 1) := by decide +kernel
theorem dL_law_211 : decode cL_law 211 = .ok (.iconst 2, 1) := by decide +kernel
theorem dL_law_212 : decode cL_law 212 = .ok (.iadd, 1) := by decide +kernel
theorem dL_law_213 : decode cL_law 213 = .ok (.iaload, 1) := by decide +kernel
theorem dL_law_214 : decode cL_law 214 = .ok (.invokevirtual 18, 3) := by decide +kernel
theorem dL_law_217 : decode cL_law 217 = .ok (.aload_n 2, 1) := by decide +kernel
theorem dL_law_218 : decode cL_law 218 = .ok (.aload_n 0, 1) := by decide +kernel
theorem dL_law_219 : decode cL_law 219 = .ok (.iload_n 3, 1) := by decide +kernel
theorem dL_law_220 : decode cL_law 220 = .ok (.iconst 1, 1) := by decide +kernel
theorem dL_law_221 : decode cL_law 221 = .ok (.iadd, 1) := by decide +kernel
theorem dL_law_222 : decode cL_law 222 = .ok (.iaload, 1) := by decide +kernel
theorem dL_law_223 : decode cL_law 223 = .ok (.aload_n 0, 1) := by decide +kernel
theorem dL_law_224 : decode cL_law 224 = .ok (.iload_n 3, 1) := by decide +kernel
theorem dL_law_225 : decode cL_law 225 = .ok (.iconst 2, 1) := by decide +kernel
theorem dL_law_226 : decode cL_law 226 = .ok (.iadd, 1) := by decide +kernel
theorem dL_law_227 : decode cL_law 227 = .ok (.iaload, 1) := by decide +kernel
theorem dL_law_228 : decode cL_law 228 = .ok (.invokevirtual 22, 3) := by decide +kernel
theorem dL_law_231 : decode cL_law 231 = .ok (.if_icmp .eq 648, 3) := by decide +kernel
theorem dL_law_236 : decode cL_law 236 = .ok (.aload_n 1, 1) := by decide +kernel
theorem dL_law_237 : decode cL_law 237 = .ok (.aload_n 0, 1) := by decide +kernel
theorem dL_law_238 : decode cL_law 238 = .ok (.iload_n 3, 1) := by decide +kernel
theorem dL_law_239 : decode cL_law 239 = .ok (.iconst 1, 1) := by decide +kernel
theorem dL_law_240 : decode cL_law 240 = .ok (.iadd, 1) := by decide +kernel
theorem dL_law_241 : decode cL_law 241 = .ok (.iaload, 1) := by decide +kernel
theorem dL_law_242 : decode cL_law 242 = .ok (.invokevirtual 23, 3) := by decide +kernel
theorem dL_law_245 : decode cL_law 245 = .ok (.aload_n 2, 1) := by decide +kernel
theorem dL_law_246 : decode cL_law 246 = .ok (.aload_n 0, 1) := by decide +kernel
theorem dL_law_247 : decode cL_law 247 = .ok (.iload_n 3, 1) := by decide +kernel
theorem dL_law_248 : decode cL_law 248 = .ok (.iconst 1, 1) := by decide +kernel
theorem dL_law_249 : decode cL_law 249 = .ok (.iadd, 1) := by decide +kernel
theorem dL_law_250 : decode cL_law 250 = .ok (.iaload, 1) := by decide +kernel
theorem dL_law_251 : decode cL_law 251 = .ok (.invokevirtual 26, 3) := by decide +kernel
theorem dL_law_254 : decode cL_law 254 = .ok (.if_icmp .eq 625, 3) := by decide +kernel
theorem dL_law_259 : decode cL_law 259 = .ok (.aload_n 1, 1) := by decide +kernel
theorem dL_law_260 : decode cL_law 260 = .ok (.aload_n 0, 1) := by decide +kernel
theorem dL_law_261 : decode cL_law 261 = .ok (.iload_n 3, 1) := by decide +kernel
theorem dL_law_262 : decode cL_law 262 = .ok (.iconst 1, 1) := by decide +kernel
theorem dL_law_263 : decode cL_law 263 = .ok (.iadd, 1) := by decide +kernel
theorem dL_law_264 : decode cL_law 264 = .ok (.iaload, 1) := by decide +kernel
theorem dL_law_265 : decode cL_law 265 = .ok (.invokevirtual 27, 3) := by decide +kernel
theorem dL_law_268 : decode cL_law 268 = .ok (.aload_n 2, 1) := by decide +kernel
theorem dL_law_269 : decode cL_law 269 = .ok (.aload_n 0, 1) := by decide +kernel
theorem dL_law_270 : decode cL_law 270 = .ok (.iload_n 3, 1) := by decide +kernel
theorem dL_law_271 : decode cL_law 271 = .ok (.iconst 1, 1) := by decide +kernel
theorem dL_law_272 : decode cL_law 272 = .ok (.iadd, 1) := by decide +kernel
theorem dL_law_273 : decode cL_law 273 = .ok (.iaload, 1) := by decide +kernel
theorem dL_law_274 : decode cL_law 274 = .ok (.invokevirtual 30, 3) := by decide +kernel
theorem dL_law_277 : decode cL_law 277 = .ok (.if_icmp .eq 602, 3) := by decide +kernel
theorem dL_law_282 : decode cL_law 282 = .ok (.aload_n 1, 1) := by decide +kernel
theorem dL_law_283 : decode cL_law 283 = .ok (.aload_n 0, 1) := by decide +kernel
theorem dL_law_284 : decode cL_law 284 = .ok (.iload_n 3, 1) := by decide +kernel
theorem dL_law_285 : decode cL_law 285 = .ok (.iconst 1, 1) := by decide +kernel
theorem dL_law_286 : decode cL_law 286 = .ok (.iadd, 1) := by decide +kernel
theorem dL_law_287 : decode cL_law 287 = .ok (.iaload, 1) := by decide +kernel
theorem dL_law_288 : decode cL_law 288 = .ok (.i2c, 1) := by decide +kernel
theorem dL_law_289 : decode cL_law 289 = .ok (.invokevirtual 31, 3) := by decide +kernel
theorem dL_law_292 : decode cL_law 292 = .ok (.aload_n 2, 1) := by decide +kernel
theorem dL_law_293 : decode cL_law 293 = .ok (.aload_n 0, 1) := by decide +kernel
theorem dL_law_294 : decode cL_law 294 = .ok (.iload_n 3, 1) := by decide +kernel
theorem dL_law_295 : decode cL_law 295 = .ok (.iconst 1, 1) := by decide +kernel
theorem dL_law_296 : decode cL_law 296 = .ok (.iadd, 1) := by decide +kernel
theorem dL_law_297 : decode cL_law 297 = .ok (.iaload, 1) := by decide +kernel
theorem dL_law_298 : decode cL_law 298 = .ok (.i2c, 1) := by decide +kernel
theorem dL_law_299 : decode cL_law 299 = .ok (.invokevirtual 35, 3) := by decide +kernel
theorem dL_law_302 : decode cL_law 302 = .ok (.if_icmp .eq 577, 3) := by decide +kernel
theorem dL_law_307 : decode cL_law 307 = .ok (.aload_n 1, 1) := by decide +kernel
theorem dL_law_308 : decode cL_law 308 = .ok (.invokevirtual 36, 3) := by decide +kernel
theorem dL_law_311 : decode cL_law 311 = .ok (.aload_n 2, 1) := by decide +kernel
theorem dL_law_312 : decode cL_law 312 = .ok (.invokevirtual 40, 3) := by decide +kernel
theorem dL_law_315 : decode cL_law 315 = .ok (.if_icmp .eq 564, 3) := by decide +kernel
theorem dL_law_320 : decode cL_law 320 = .ok (.aload_n 1, 1) := by decide +kernel
theorem dL_law_321 : decode cL_law 321 = .ok (.invokevirtual 41, 3) := by decide +kernel
theorem dL_law_324 : decode cL_law 324 = .ok (.aload_n 2, 1) := by decide +kernel
theorem dL_law_325 : decode cL_law 325 = .ok (.invokevirtual 44, 3) := by decide +kernel
theorem dL_law_328 : decode cL_law 328 = .ok (.if_icmp .eq 551, 3) := by decide +kernel
theorem dL_law_333 : decode cL_law 333 = .ok (.aload_n 1, 1) := by decide +kernel
theorem dL_law_334 : decode cL_law 334 = .ok (.aload_n 0, 1) := by decide +kernel
theorem dL_law_335 : decode cL_law 335 = .ok (.iload_n 3, 1) := by decide +kernel
theorem dL_law_336 : decode cL_law 336 = .ok (.iconst 1, 1) := by decide +kernel
theorem dL_law_337 : decode cL_law 337 = .ok (.iadd, 1) := by decide +kernel
theorem dL_law_338 : decode cL_law 338 = .ok (.iaload, 1) := by decide +kernel
theorem dL_law_339 : decode cL_law 339 = .ok (.invokevirtual 45, 3) := by decide +kernel
theorem dL_law_342 : decode cL_law 342 = .ok (.aload_n 2, 1) := by decide +kernel
theorem dL_law_343 : decode cL_law 343 = .ok (.aload_n 0, 1) := by decide +kernel
theorem dL_law_344 : decode cL_law 344 = .ok (.iload_n 3, 1) := by decide +kernel
theorem dL_law_345 : decode cL_law 345 = .ok (.iconst 1, 1) := by decide +kernel
theorem dL_law_346 : decode cL_law 346 = .ok (.iadd, 1) := by decide +kernel
theorem dL_law_347 : decode cL_law 347 = .ok (.iaload, 1) := by decide +kernel
theorem dL_law_348 : decode cL_law 348 = .ok (.invokevirtual 48, 3) := by decide +kernel
theorem dL_law_351 : decode cL_law 351 = .ok (.if_icmp .eq 528, 3) := by decide +kernel
theorem dL_law_356 : decode cL_law 356 = .ok (.aload_n 1, 1) := by decide +kernel
theorem dL_law_357 : decode cL_law 357 = .ok (.aload_n 0, 1) := by decide +kernel
theorem dL_law_358 : decode cL_law 358 = .ok (.iload_n 3, 1) := by decide +kernel
theorem dL_law_359 : decode cL_law 359 = .ok (.iconst 1, 1) := by decide +kernel
theorem dL_law_360 : decode cL_law 360 = .ok (.iadd, 1) := by decide +kernel
theorem dL_law_361 : decode cL_law 361 = .ok (.iaload, 1) := by decide +kernel
theorem dL_law_362 : decode cL_law 362 = .ok (.invokevirtual 49, 3) := by decide +kernel
theorem dL_law_365 : decode cL_law 365 = .ok (.aload_n 2, 1) := by decide +kernel
theorem dL_law_366 : decode cL_law 366 = .ok (.aload_n 0, 1) := by decide +kernel
theorem dL_law_367 : decode cL_law 367 = .ok (.iload_n 3, 1) := by decide +kernel
theorem dL_law_368 : decode cL_law 368 = .ok (.iconst 1, 1) := by decide +kernel
theorem dL_law_369 : decode cL_law 369 = .ok (.iadd, 1) := by decide +kernel
theorem dL_law_370 : decode cL_law 370 = .ok (.iaload, 1) := by decide +kernel
theorem dL_law_371 : decode cL_law 371 = .ok (.invokevirtual 52, 3) := by decide +kernel
theorem dL_law_374 : decode cL_law 374 = .ok (.if_icmp .eq 505, 3) := by decide +kernel
theorem dL_law_379 : decode cL_law 379 = .ok (.aload_n 1, 1) := by decide +kernel
theorem dL_law_380 : decode cL_law 380 = .ok (.aload_n 0, 1) := by decide +kernel
theorem dL_law_381 : decode cL_law 381 = .ok (.iload_n 3, 1) := by decide +kernel
theorem dL_law_382 : decode cL_law 382 = .ok (.iconst 1, 1) := by decide +kernel
theorem dL_law_383 : decode cL_law 383 = .ok (.iadd, 1) := by decide +kernel
theorem dL_law_384 : decode cL_law 384 = .ok (.iaload, 1) := by decide +kernel
theorem dL_law_385 : decode cL_law 385 = .ok (.aload_n 0, 1) := by decide +kernel
theorem dL_law_386 : decode cL_law 386 = .ok (.iload_n 3, 1) := by decide +kernel
theorem dL_law_387 : decode cL_law 387 = .ok (.iconst 2, 1) := by decide +kernel
theorem dL_law_388 : decode cL_law 388 = .ok (.iadd, 1) := by decide +kernel
theorem dL_law_389 : decode cL_law 389 = .ok (.iaload, 1) := by decide +kernel
theorem dL_law_390 : decode cL_law 390 = .ok (.ifCond .eq 7, 3) := by decide +kernel
theorem dL_law_393 : decode cL_law 393 = .ok (.iconst 1, 1) := by decide +kernel
theorem dL_law_394 : decode cL_law 394 = .ok (.goto 4, 3) := by decide +kernel
theorem dL_law_397 : decode cL_law 397 = .ok (.iconst 0, 1) := by decide +kernel
theorem dL_law_398 : decode cL_law 398 = .ok (.invokevirtual 53, 3) := by decide +kernel
theorem dL_law_401 : decode cL_law 401 = .ok (.aload_n 2, 1) := by decide +kernel
theorem dL_law_402 : decode cL_law 402 = .ok (.aload_n 0, 1) := by decide +kernel
theorem dL_law_403 : decode cL_law 403 = .ok (.iload_n 3, 1) := by decide +kernel
theorem dL_law_404 : decode cL_law 404 = .ok (.iconst 1, 1) := by decide +kernel
theorem dL_law_405 : decode cL_law 405 = .ok (.iadd, 1) := by decide +kernel
theorem dL_law_406 : decode cL_law 406 = .ok (.iaload, 1) := by decide +kernel
theorem dL_law_407 : decode cL_law 407 = .ok (.aload_n 0, 1) := by decide +kernel
theorem dL_law_408 : decode cL_law 408 = .ok (.iload_n 3, 1) := by decide +kernel
theorem dL_law_409 : decode cL_law 409 = .ok (.iconst 2, 1) := by decide +kernel
theorem dL_law_410 : decode cL_law 410 = .ok (.iadd, 1) := by decide +kernel
theorem dL_law_411 : decode cL_law 411 = .ok (.iaload, 1) := by decide +kernel
theorem dL_law_412 : decode cL_law 412 = .ok (.ifCond .eq 7, 3) := by decide +kernel
theorem dL_law_415 : decode cL_law 415 = .ok (.iconst 1, 1) := by decide +kernel
theorem dL_law_416 : decode cL_law 416 = .ok (.goto 4, 3) := by decide +kernel
theorem dL_law_419 : decode cL_law 419 = .ok (.iconst 0, 1) := by decide +kernel
theorem dL_law_420 : decode cL_law 420 = .ok (.invokevirtual 57, 3) := by decide +kernel
theorem dL_law_423 : decode cL_law 423 = .ok (.if_icmp .eq 456, 3) := by decide +kernel
theorem dL_law_428 : decode cL_law 428 = .ok (.aload_n 1, 1) := by decide +kernel
theorem dL_law_429 : decode cL_law 429 = .ok (.aload_n 0, 1) := by decide +kernel
theorem dL_law_430 : decode cL_law 430 = .ok (.iload_n 3, 1) := by decide +kernel
theorem dL_law_431 : decode cL_law 431 = .ok (.iconst 1, 1) := by decide +kernel
theorem dL_law_432 : decode cL_law 432 = .ok (.iadd, 1) := by decide +kernel
theorem dL_law_433 : decode cL_law 433 = .ok (.iaload, 1) := by decide +kernel
theorem dL_law_434 : decode cL_law 434 = .ok (.aload_n 0, 1) := by decide +kernel
theorem dL_law_435 : decode cL_law 435 = .ok (.iload_n 3, 1) := by decide +kernel
theorem dL_law_436 : decode cL_law 436 = .ok (.iconst 2, 1) := by decide +kernel
theorem dL_law_437 : decode cL_law 437 = .ok (.iadd, 1) := by decide +kernel
theorem dL_law_438 : decode cL_law 438 = .ok (.iaload, 1) := by decide +kernel
theorem dL_law_439 : decode cL_law 439 = .ok (.invokevirtual 58, 3) := by decide +kernel
theorem dL_law_442 : decode cL_law 442 = .ok (.aload_n 2, 1) := by decide +kernel
theorem dL_law_443 : decode cL_law 443 = .ok (.aload_n 0, 1) := by decide +kernel
theorem dL_law_444 : decode cL_law 444 = .ok (.iload_n 3, 1) := by decide +kernel
theorem dL_law_445 : decode cL_law 445 = .ok (.iconst 1, 1) := by decide +kernel
theorem dL_law_446 : decode cL_law 446 = .ok (.iadd, 1) := by decide +kernel
theorem dL_law_447 : decode cL_law 447 = .ok (.iaload, 1) := by decide +kernel
theorem dL_law_448 : decode cL_law 448 = .ok (.aload_n 0, 1) := by decide +kernel
theorem dL_law_449 : decode cL_law 449 = .ok (.iload_n 3, 1) := by decide +kernel
theorem dL_law_450 : decode cL_law 450 = .ok (.iconst 2, 1) := by decide +kernel
theorem dL_law_451 : decode cL_law 451 = .ok (.iadd, 1) := by decide +kernel
theorem dL_law_452 : decode cL_law 452 = .ok (.iaload, 1) := by decide +kernel
theorem dL_law_453 : decode cL_law 453 = .ok (.invokevirtual 61, 3) := by decide +kernel
theorem dL_law_456 : decode cL_law 456 = .ok (.if_icmp .eq 423, 3) := by decide +kernel
theorem dL_law_461 : decode cL_law 461 = .ok (.aload_n 1, 1) := by decide +kernel
theorem dL_law_462 : decode cL_law 462 = .ok (.aload_n 0, 1) := by decide +kernel
theorem dL_law_463 : decode cL_law 463 = .ok (.iload_n 3, 1) := by decide +kernel
theorem dL_law_464 : decode cL_law 464 = .ok (.iconst 1, 1) := by decide +kernel
theorem dL_law_465 : decode cL_law 465 = .ok (.iadd, 1) := by decide +kernel
theorem dL_law_466 : decode cL_law 466 = .ok (.iaload, 1) := by decide +kernel
theorem dL_law_467 : decode cL_law 467 = .ok (.invokevirtual 62, 3) := by decide +kernel
theorem dL_law_470 : decode cL_law 470 = .ok (.aload_n 2, 1) := by decide +kernel
theorem dL_law_471 : decode cL_law 471 = .ok (.aload_n 0, 1) := by decide +kernel
theorem dL_law_472 : decode cL_law 472 = .ok (.iload_n 3, 1) := by decide +kernel
theorem dL_law_473 : decode cL_law 473 = .ok (.iconst 1, 1) := by decide +kernel
theorem dL_law_474 : decode cL_law 474 = .ok (.iadd, 1) := by decide +kernel
theorem dL_law_475 : decode cL_law 475 = .ok (.iaload, 1) := by decide +kernel
theorem dL_law_476 : decode cL_law 476 = .ok (.invokevirtual 65, 3) := by decide +kernel
theorem dL_law_479 : decode cL_law 479 = .ok (.if_icmp .eq 400, 3) := by decide +kernel
theorem dL_law_484 : decode cL_law 484 = .ok (.aload_n 1, 1) := by decide +kernel
theorem dL_law_485 : decode cL_law 485 = .ok (.aload_n 0, 1) := by decide +kernel
theorem dL_law_486 : decode cL_law 486 = .ok (.iload_n 3, 1) := by decide +kernel
theorem dL_law_487 : decode cL_law 487 = .ok (.iconst 1, 1) := by decide +kernel
theorem dL_law_488 : decode cL_law 488 = .ok (.iadd, 1) := by decide +kernel
theorem dL_law_489 : decode cL_law 489 = .ok (.iaload, 1) := by decide +kernel
theorem dL_law_490 : decode cL_law 490 = .ok (.invokevirtual 66, 3) := by decide +kernel
theorem dL_law_493 : decode cL_law 493 = .ok (.aload_n 2, 1) := by decide +kernel
theorem dL_law_494 : decode cL_law 494 = .ok (.aload_n 0, 1) := by decide +kernel
theorem dL_law_495 : decode cL_law 495 = .ok (.iload_n 3, 1) := by decide +kernel
theorem dL_law_496 : decode cL_law 496 = .ok (.iconst 1, 1) := by decide +kernel
theorem dL_law_497 : decode cL_law 497 = .ok (.iadd, 1) := by decide +kernel
theorem dL_law_498 : decode cL_law 498 = .ok (.iaload, 1) := by decide +kernel
theorem dL_law_499 : decode cL_law 499 = .ok (.invokevirtual 69, 3) := by decide +kernel
theorem dL_law_502 : decode cL_law 502 = .ok (.if_icmp .eq 377, 3) := by decide +kernel
theorem dL_law_507 : decode cL_law 507 = .ok (.aload_n 1, 1) := by decide +kernel
theorem dL_law_508 : decode cL_law 508 = .ok (.invokevirtual 70, 3) := by decide +kernel
theorem dL_law_511 : decode cL_law 511 = .ok (.aload_n 2, 1) := by decide +kernel
theorem dL_law_512 : decode cL_law 512 = .ok (.invokevirtual 73, 3) := by decide +kernel
theorem dL_law_515 : decode cL_law 515 = .ok (.if_icmp .eq 364, 3) := by decide +kernel
theorem dL_law_520 : decode cL_law 520 = .ok (.aload_n 1, 1) := by decide +kernel
theorem dL_law_521 : decode cL_law 521 = .ok (.aload_n 0, 1) := by decide +kernel
theorem dL_law_522 : decode cL_law 522 = .ok (.iload_n 3, 1) := by decide +kernel
theorem dL_law_523 : decode cL_law 523 = .ok (.iconst 1, 1) := by decide +kernel
theorem dL_law_524 : decode cL_law 524 = .ok (.iadd, 1) := by decide +kernel
theorem dL_law_525 : decode cL_law 525 = .ok (.iaload, 1) := by decide +kernel
theorem dL_law_526 : decode cL_law 526 = .ok (.invokevirtual 74, 3) := by decide +kernel
theorem dL_law_529 : decode cL_law 529 = .ok (.aload_n 2, 1) := by decide +kernel
theorem dL_law_530 : decode cL_law 530 = .ok (.aload_n 0, 1) := by decide +kernel
theorem dL_law_531 : decode cL_law 531 = .ok (.iload_n 3, 1) := by decide +kernel
theorem dL_law_532 : decode cL_law 532 = .ok (.iconst 1, 1) := by decide +kernel
theorem dL_law_533 : decode cL_law 533 = .ok (.iadd, 1) := by decide +kernel
theorem dL_law_534 : decode cL_law 534 = .ok (.iaload, 1) := by decide +kernel
theorem dL_law_535 : decode cL_law 535 = .ok (.invokevirtual 77, 3) := by decide +kernel
theorem dL_law_538 : decode cL_law 538 = .ok (.if_icmp .eq 341, 3) := by decide +kernel
theorem dL_law_543 : decode cL_law 543 = .ok (.aload_n 1, 1) := by decide +kernel
theorem dL_law_544 : decode cL_law 544 = .ok (.invokevirtual 78, 3) := by decide +kernel
theorem dL_law_547 : decode cL_law 547 = .ok (.aload_n 2, 1) := by decide +kernel
theorem dL_law_548 : decode cL_law 548 = .ok (.invokevirtual 81, 3) := by decide +kernel
theorem dL_law_551 : decode cL_law 551 = .ok (.if_icmp .eq 328, 3) := by decide +kernel
theorem dL_law_556 : decode cL_law 556 = .ok (.aload_n 1, 1) := by decide +kernel
theorem dL_law_557 : decode cL_law 557 = .ok (.invokevirtual 82, 3) := by decide +kernel
theorem dL_law_560 : decode cL_law 560 = .ok (.aload_n 2, 1) := by decide +kernel
theorem dL_law_561 : decode cL_law 561 = .ok (.invokevirtual 85, 3) := by decide +kernel
theorem dL_law_564 : decode cL_law 564 = .ok (.if_icmp .eq 315, 3) := by decide +kernel
theorem dL_law_569 : decode cL_law 569 = .ok (.aload_n 1, 1) := by decide +kernel
theorem dL_law_570 : decode cL_law 570 = .ok (.invokevirtual 86, 3) := by decide +kernel
theorem dL_law_573 : decode cL_law 573 = .ok (.aload_n 2, 1) := by decide +kernel
theorem dL_law_574 : decode cL_law 574 = .ok (.invokevirtual 89, 3) := by decide +kernel
theorem dL_law_577 : decode cL_law 577 = .ok (.if_icmp .eq 302, 3) := by decide +kernel
theorem dL_law_582 : decode cL_law 582 = .ok (.aload_n 1, 1) := by decide +kernel
theorem dL_law_583 : decode cL_law 583 = .ok (.aload_n 0, 1) := by decide +kernel
theorem dL_law_584 : decode cL_law 584 = .ok (.iload_n 3, 1) := by decide +kernel
theorem dL_law_585 : decode cL_law 585 = .ok (.iconst 1, 1) := by decide +kernel
theorem dL_law_586 : decode cL_law 586 = .ok (.iadd, 1) := by decide +kernel
theorem dL_law_587 : decode cL_law 587 = .ok (.iaload, 1) := by decide +kernel
theorem dL_law_588 : decode cL_law 588 = .ok (.invokevirtual 90, 3) := by decide +kernel
theorem dL_law_591 : decode cL_law 591 = .ok (.aload_n 2, 1) := by decide +kernel
theorem dL_law_592 : decode cL_law 592 = .ok (.aload_n 0, 1) := by decide +kernel
theorem dL_law_593 : decode cL_law 593 = .ok (.iload_n 3, 1) := by decide +kernel
theorem dL_law_594 : decode cL_law 594 = .ok (.iconst 1, 1) := by decide +kernel
theorem dL_law_595 : decode cL_law 595 = .ok (.iadd, 1) := by decide +kernel
theorem dL_law_596 : decode cL_law 596 = .ok (.iaload, 1) := by decide +kernel
theorem dL_law_597 : decode cL_law 597 = .ok (.invokevirtual 93, 3) := by decide +kernel
theorem dL_law_600 : decode cL_law 600 = .ok (.if_icmp .eq 279, 3) := by decide +kernel
theorem dL_law_605 : decode cL_law 605 = .ok (.aload_n 1, 1) := by decide +kernel
theorem dL_law_606 : decode cL_law 606 = .ok (.invokevirtual 94, 3) := by decide +kernel
theorem dL_law_609 : decode cL_law 609 = .ok (.aload_n 2, 1) := by decide +kernel
theorem dL_law_610 : decode cL_law 610 = .ok (.invokevirtual 97, 3) := by decide +kernel
theorem dL_law_613 : decode cL_law 613 = .ok (.if_icmp .eq 266, 3) := by decide +kernel
theorem dL_law_618 : decode cL_law 618 = .ok (.aload_n 1, 1) := by decide +kernel
theorem dL_law_619 : decode cL_law 619 = .ok (.aload_n 0, 1) := by decide +kernel
theorem dL_law_620 : decode cL_law 620 = .ok (.iload_n 3, 1) := by decide +kernel
theorem dL_law_621 : decode cL_law 621 = .ok (.iconst 1, 1) := by decide +kernel
theorem dL_law_622 : decode cL_law 622 = .ok (.iadd, 1) := by decide +kernel
theorem dL_law_623 : decode cL_law 623 = .ok (.iaload, 1) := by decide +kernel
theorem dL_law_624 : decode cL_law 624 = .ok (.invokevirtual 98, 3) := by decide +kernel
theorem dL_law_627 : decode cL_law 627 = .ok (.aload_n 2, 1) := by decide +kernel
theorem dL_law_628 : decode cL_law 628 = .ok (.aload_n 0, 1) := by decide +kernel
theorem dL_law_629 : decode cL_law 629 = .ok (.iload_n 3, 1) := by decide +kernel
theorem dL_law_630 : decode cL_law 630 = .ok (.iconst 1, 1) := by decide +kernel
theorem dL_law_631 : decode cL_law 631 = .ok (.iadd, 1) := by decide +kernel
theorem dL_law_632 : decode cL_law 632 = .ok (.iaload, 1) := by decide +kernel
theorem dL_law_633 : decode cL_law 633 = .ok (.invokevirtual 101, 3) := by decide +kernel
theorem dL_law_636 : decode cL_law 636 = .ok (.if_icmp .eq 243, 3) := by decide +kernel
theorem dL_law_641 : decode cL_law 641 = .ok (.aload_n 1, 1) := by decide +kernel
theorem dL_law_642 : decode cL_law 642 = .ok (.aload_n 0, 1) := by decide +kernel
theorem dL_law_643 : decode cL_law 643 = .ok (.iload_n 3, 1) := by decide +kernel
theorem dL_law_644 : decode cL_law 644 = .ok (.iconst 1, 1) := by decide +kernel
theorem dL_law_645 : decode cL_law 645 = .ok (.iadd, 1) := by decide +kernel
theorem dL_law_646 : decode cL_law 646 = .ok (.iaload, 1) := by decide +kernel
theorem dL_law_647 : decode cL_law 647 = .ok (.invokevirtual 102, 3) := by decide +kernel
theorem dL_law_650 : decode cL_law 650 = .ok (.aload_n 2, 1) := by decide +kernel
theorem dL_law_651 : decode cL_law 651 = .ok (.aload_n 0, 1) := by decide +kernel
theorem dL_law_652 : decode cL_law 652 = .ok (.iload_n 3, 1) := by decide +kernel
theorem dL_law_653 : decode cL_law 653 = .ok (.iconst 1, 1) := by decide +kernel
theorem dL_law_654 : decode cL_law 654 = .ok (.iadd, 1) := by decide +kernel
theorem dL_law_655 : decode cL_law 655 = .ok (.iaload, 1) := by decide +kernel
theorem dL_law_656 : decode cL_law 656 = .ok (.invokevirtual 105, 3) := by decide +kernel
theorem dL_law_659 : decode cL_law 659 = .ok (.if_icmp .eq 220, 3) := by decide +kernel
theorem dL_law_664 : decode cL_law 664 = .ok (.aload_n 1, 1) := by decide +kernel
theorem dL_law_665 : decode cL_law 665 = .ok (.aload_n 0, 1) := by decide +kernel
theorem dL_law_666 : decode cL_law 666 = .ok (.iload_n 3, 1) := by decide +kernel
theorem dL_law_667 : decode cL_law 667 = .ok (.iconst 1, 1) := by decide +kernel
theorem dL_law_668 : decode cL_law 668 = .ok (.iadd, 1) := by decide +kernel
theorem dL_law_669 : decode cL_law 669 = .ok (.iaload, 1) := by decide +kernel
theorem dL_law_670 : decode cL_law 670 = .ok (.invokevirtual 106, 3) := by decide +kernel
theorem dL_law_673 : decode cL_law 673 = .ok (.aload_n 2, 1) := by decide +kernel
theorem dL_law_674 : decode cL_law 674 = .ok (.aload_n 0, 1) := by decide +kernel
theorem dL_law_675 : decode cL_law 675 = .ok (.iload_n 3, 1) := by decide +kernel
theorem dL_law_676 : decode cL_law 676 = .ok (.iconst 1, 1) := by decide +kernel
theorem dL_law_677 : decode cL_law 677 = .ok (.iadd, 1) := by decide +kernel
theorem dL_law_678 : decode cL_law 678 = .ok (.iaload, 1) := by decide +kernel
theorem dL_law_679 : decode cL_law 679 = .ok (.invokevirtual 109, 3) := by decide +kernel
theorem dL_law_682 : decode cL_law 682 = .ok (.if_icmp .eq 197, 3) := by decide +kernel
theorem dL_law_687 : decode cL_law 687 = .ok (.aload_n 1, 1) := by decide +kernel
theorem dL_law_688 : decode cL_law 688 = .ok (.aload_n 0, 1) := by decide +kernel
theorem dL_law_689 : decode cL_law 689 = .ok (.iload_n 3, 1) := by decide +kernel
theorem dL_law_690 : decode cL_law 690 = .ok (.iconst 1, 1) := by decide +kernel
theorem dL_law_691 : decode cL_law 691 = .ok (.iadd, 1) := by decide +kernel
theorem dL_law_692 : decode cL_law 692 = .ok (.iaload, 1) := by decide +kernel
theorem dL_law_693 : decode cL_law 693 = .ok (.invokevirtual 110, 3) := by decide +kernel
theorem dL_law_696 : decode cL_law 696 = .ok (.aload_n 2, 1) := by decide +kernel
theorem dL_law_697 : decode cL_law 697 = .ok (.aload_n 0, 1) := by decide +kernel
theorem dL_law_698 : decode cL_law 698 = .ok (.iload_n 3, 1) := by decide +kernel
theorem dL_law_699 : decode cL_law 699 = .ok (.iconst 1, 1) := by decide +kernel
theorem dL_law_700 : decode cL_law 700 = .ok (.iadd, 1) := by decide +kernel
theorem dL_law_701 : decode cL_law 701 = .ok (.iaload, 1) := by decide +kernel
theorem dL_law_702 : decode cL_law 702 = .ok (.invokevirtual 113, 3) := by decide +kernel
theorem dL_law_705 : decode cL_law 705 = .ok (.if_icmp .eq 174, 3) := by decide +kernel
theorem dL_law_710 : decode cL_law 710 = .ok (.aload_n 1, 1) := by decide +kernel
theorem dL_law_711 : decode cL_law 711 = .ok (.invokevirtual 114, 3) := by decide +kernel
theorem dL_law_714 : decode cL_law 714 = .ok (.aload_n 2, 1) := by decide +kernel
theorem dL_law_715 : decode cL_law 715 = .ok (.invokevirtual 118, 3) := by decide +kernel
theorem dL_law_718 : decode cL_law 718 = .ok (.lcmp, 1) := by decide +kernel
theorem dL_law_719 : decode cL_law 719 = .ok (.ifCond .eq 160, 3) := by decide +kernel
theorem dL_law_724 : decode cL_law 724 = .ok (.aload_n 1, 1) := by decide +kernel
theorem dL_law_725 : decode cL_law 725 = .ok (.aload_n 0, 1) := by decide +kernel
theorem dL_law_726 : decode cL_law 726 = .ok (.iload_n 3, 1) := by decide +kernel
theorem dL_law_727 : decode cL_law 727 = .ok (.iconst 1, 1) := by decide +kernel
theorem dL_law_728 : decode cL_law 728 = .ok (.iadd, 1) := by decide +kernel
theorem dL_law_729 : decode cL_law 729 = .ok (.iaload, 1) := by decide +kernel
theorem dL_law_730 : decode cL_law 730 = .ok (.invokevirtual 119, 3) := by decide +kernel
theorem dL_law_733 : decode cL_law 733 = .ok (.aload_n 2, 1) := by decide +kernel
theorem dL_law_734 : decode cL_law 734 = .ok (.aload_n 0, 1) := by decide +kernel
theorem dL_law_735 : decode cL_law 735 = .ok (.iload_n 3, 1) := by decide +kernel
theorem dL_law_736 : decode cL_law 736 = .ok (.iconst 1, 1) := by decide +kernel
theorem dL_law_737 : decode cL_law 737 = .ok (.iadd, 1) := by decide +kernel
theorem dL_law_738 : decode cL_law 738 = .ok (.iaload, 1) := by decide +kernel
theorem dL_law_739 : decode cL_law 739 = .ok (.invokevirtual 122, 3) := by decide +kernel
theorem dL_law_742 : decode cL_law 742 = .ok (.if_icmp .eq 137, 3) := by decide +kernel
theorem dL_law_747 : decode cL_law 747 = .ok (.aload_n 1, 1) := by decide +kernel
theorem dL_law_748 : decode cL_law 748 = .ok (.invokevirtual 123, 3) := by decide +kernel
theorem dL_law_751 : decode cL_law 751 = .ok (.aload_n 2, 1) := by decide +kernel
theorem dL_law_752 : decode cL_law 752 = .ok (.invokevirtual 126, 3) := by decide +kernel
theorem dL_law_755 : decode cL_law 755 = .ok (.if_icmp .eq 124, 3) := by decide +kernel
theorem dL_law_760 : decode cL_law 760 = .ok (.aload_n 1, 1) := by decide +kernel
theorem dL_law_761 : decode cL_law 761 = .ok (.aload_n 0, 1) := by decide +kernel
theorem dL_law_762 : decode cL_law 762 = .ok (.iload_n 3, 1) := by decide +kernel
theorem dL_law_763 : decode cL_law 763 = .ok (.iconst 1, 1) := by decide +kernel
theorem dL_law_764 : decode cL_law 764 = .ok (.iadd, 1) := by decide +kernel
theorem dL_law_765 : decode cL_law 765 = .ok (.iaload, 1) := by decide +kernel
theorem dL_law_766 : decode cL_law 766 = .ok (.invokevirtual 127, 3) := by decide +kernel
theorem dL_law_769 : decode cL_law 769 = .ok (.aload_n 2, 1) := by decide +kernel
theorem dL_law_770 : decode cL_law 770 = .ok (.aload_n 0, 1) := by decide +kernel
theorem dL_law_771 : decode cL_law 771 = .ok (.iload_n 3, 1) := by decide +kernel
theorem dL_law_772 : decode cL_law 772 = .ok (.iconst 1, 1) := by decide +kernel
theorem dL_law_773 : decode cL_law 773 = .ok (.iadd, 1) := by decide +kernel
theorem dL_law_774 : decode cL_law 774 = .ok (.iaload, 1) := by decide +kernel
theorem dL_law_775 : decode cL_law 775 = .ok (.invokevirtual 131, 3) := by decide +kernel
theorem dL_law_778 : decode cL_law 778 = .ok (.lcmp, 1) := by decide +kernel
theorem dL_law_779 : decode cL_law 779 = .ok (.ifCond .eq 100, 3) := by decide +kernel
theorem dL_law_784 : decode cL_law 784 = .ok (.aload_n 1, 1) := by decide +kernel
theorem dL_law_785 : decode cL_law 785 = .ok (.invokevirtual 132, 3) := by decide +kernel
theorem dL_law_788 : decode cL_law 788 = .ok (.aload_n 2, 1) := by decide +kernel
theorem dL_law_789 : decode cL_law 789 = .ok (.invokevirtual 135, 3) := by decide +kernel
theorem dL_law_792 : decode cL_law 792 = .ok (.if_icmp .eq 87, 3) := by decide +kernel
theorem dL_law_797 : decode cL_law 797 = .ok (.aload_n 1, 1) := by decide +kernel
theorem dL_law_798 : decode cL_law 798 = .ok (.aload_n 0, 1) := by decide +kernel
theorem dL_law_799 : decode cL_law 799 = .ok (.iload_n 3, 1) := by decide +kernel
theorem dL_law_800 : decode cL_law 800 = .ok (.iconst 1, 1) := by decide +kernel
theorem dL_law_801 : decode cL_law 801 = .ok (.iadd, 1) := by decide +kernel
theorem dL_law_802 : decode cL_law 802 = .ok (.iaload, 1) := by decide +kernel
theorem dL_law_803 : decode cL_law 803 = .ok (.invokevirtual 136, 3) := by decide +kernel
theorem dL_law_806 : decode cL_law 806 = .ok (.aload_n 2, 1) := by decide +kernel
theorem dL_law_807 : decode cL_law 807 = .ok (.aload_n 0, 1) := by decide +kernel
theorem dL_law_808 : decode cL_law 808 = .ok (.iload_n 3, 1) := by decide +kernel
theorem dL_law_809 : decode cL_law 809 = .ok (.iconst 1, 1) := by decide +kernel
theorem dL_law_810 : decode cL_law 810 = .ok (.iadd, 1) := by decide +kernel
theorem dL_law_811 : decode cL_law 811 = .ok (.iaload, 1) := by decide +kernel
theorem dL_law_812 : decode cL_law 812 = .ok (.invokevirtual 139, 3) := by decide +kernel
theorem dL_law_815 : decode cL_law 815 = .ok (.if_icmp .eq 64, 3) := by decide +kernel
theorem dL_law_820 : decode cL_law 820 = .ok (.aload_n 1, 1) := by decide +kernel
theorem dL_law_821 : decode cL_law 821 = .ok (.invokevirtual 140, 3) := by decide +kernel
theorem dL_law_824 : decode cL_law 824 = .ok (.aload_n 2, 1) := by decide +kernel
theorem dL_law_825 : decode cL_law 825 = .ok (.invokevirtual 143, 3) := by decide +kernel
theorem dL_law_828 : decode cL_law 828 = .ok (.if_icmp .eq 51, 3) := by decide +kernel
theorem dL_law_833 : decode cL_law 833 = .ok (.aload_n 1, 1) := by decide +kernel
theorem dL_law_834 : decode cL_law 834 = .ok (.aload_n 0, 1) := by decide +kernel
theorem dL_law_835 : decode cL_law 835 = .ok (.iload_n 3, 1) := by decide +kernel
theorem dL_law_836 : decode cL_law 836 = .ok (.iconst 1, 1) := by decide +kernel
theorem dL_law_837 : decode cL_law 837 = .ok (.iadd, 1) := by decide +kernel
theorem dL_law_838 : decode cL_law 838 = .ok (.iaload, 1) := by decide +kernel
theorem dL_law_839 : decode cL_law 839 = .ok (.invokevirtual 144, 3) := by decide +kernel
theorem dL_law_842 : decode cL_law 842 = .ok (.aload_n 2, 1) := by decide +kernel
theorem dL_law_843 : decode cL_law 843 = .ok (.aload_n 0, 1) := by decide +kernel
theorem dL_law_844 : decode cL_law 844 = .ok (.iload_n 3, 1) := by decide +kernel
theorem dL_law_845 : decode cL_law 845 = .ok (.iconst 1, 1) := by decide +kernel
theorem dL_law_846 : decode cL_law 846 = .ok (.iadd, 1) := by decide +kernel
theorem dL_law_847 : decode cL_law 847 = .ok (.iaload, 1) := by decide +kernel
theorem dL_law_848 : decode cL_law 848 = .ok (.invokevirtual 147, 3) := by decide +kernel
theorem dL_law_851 : decode cL_law 851 = .ok (.if_icmp .eq 28, 3) := by decide +kernel
theorem dL_law_856 : decode cL_law 856 = .ok (.aload_n 1, 1) := by decide +kernel
theorem dL_law_857 : decode cL_law 857 = .ok (.aload_n 0, 1) := by decide +kernel
theorem dL_law_858 : decode cL_law 858 = .ok (.iload_n 3, 1) := by decide +kernel
theorem dL_law_859 : decode cL_law 859 = .ok (.iconst 1, 1) := by decide +kernel
theorem dL_law_860 : decode cL_law 860 = .ok (.iadd, 1) := by decide +kernel
theorem dL_law_861 : decode cL_law 861 = .ok (.iaload, 1) := by decide +kernel
theorem dL_law_862 : decode cL_law 862 = .ok (.invokevirtual 148, 3) := by decide +kernel
theorem dL_law_865 : decode cL_law 865 = .ok (.aload_n 2, 1) := by decide +kernel
theorem dL_law_866 : decode cL_law 866 = .ok (.aload_n 0, 1) := by decide +kernel
theorem dL_law_867 : decode cL_law 867 = .ok (.iload_n 3, 1) := by decide +kernel
theorem dL_law_868 : decode cL_law 868 = .ok (.iconst 1, 1) := by decide +kernel
theorem dL_law_869 : decode cL_law 869 = .ok (.iadd, 1) := by decide +kernel
theorem dL_law_870 : decode cL_law 870 = .ok (.iaload, 1) := by decide +kernel
theorem dL_law_871 : decode cL_law 871 = .ok (.invokevirtual 151, 3) := by decide +kernel
theorem dL_law_874 : decode cL_law 874 = .ok (.if_icmp .eq 5, 3) := by decide +kernel
theorem dL_law_879 : decode cL_law 879 = .ok (.iinc 3 3, 3) := by decide +kernel
theorem dL_law_882 : decode cL_law 882 = .ok (.goto (-864), 3) := by decide +kernel
theorem dL_law_885 : decode cL_law 885 = .ok (.iconst 1, 1) := by decide +kernel
theorem dL_law_886 : decode cL_law 886 = .ok (.ireturn, 1) := by decide +kernel
set_option maxHeartbeats 4000000 in
set_option maxRecDepth 20000 in
/-- the law's loop, out of what each call does to the two stores -/
theorem law_loop {b L : Nat} {xs : Nat → Int32} (K : Nat) (Rel : Nat → Sto → Sto → Prop) (hK9 : K < 700000000) (hL : L ≤ 3 * K + 2) (hL2 : L < 2147480000) (hmono : ∀ k x y, k < K → Rel k x y → Rel (k + 1) x y)
    (o_reset : ∀ (k : Nat) (x y : Sto) (a1 : Int), k < K → Rel k x y → (-2147483648 ≤ a1 ∧ a1 < 2147483648) → ∃ Q : Int → Sto → Prop, K_Cg_reset a1 x Q ∧ ∀ r x', Q r x' → ∃ Q2 : Int → Sto → Prop, K_Mo_reset a1 y Q2 ∧ ∀ r2 y', Q2 r2 y' → r = r2 ∧ Rel (k + 1) x' y')
    (o_addEdge : ∀ (k : Nat) (x y : Sto) (a1 : Int) (a2 : Int), k < K → Rel k x y → (-2147483648 ≤ a1 ∧ a1 < 2147483648) → (-2147483648 ≤ a2 ∧ a2 < 2147483648) → ∃ Q : Int → Sto → Prop, K_Cg_addEdge a1 a2 x Q ∧ ∀ r x', Q r x' → ∃ Q2 : Int → Sto → Prop, K_Mo_addEdge a1 a2 y Q2 ∧ ∀ r2 y', Q2 r2 y' → r = r2 ∧ Rel (k + 1) x' y')
    (o_removeEdge : ∀ (k : Nat) (x y : Sto) (a1 : Int), k < K → Rel k x y → (-2147483648 ≤ a1 ∧ a1 < 2147483648) → ∃ Q : Int → Sto → Prop, K_Cg_removeEdge a1 x Q ∧ ∀ r x', Q r x' → ∃ Q2 : Int → Sto → Prop, K_Mo_removeEdge a1 y Q2 ∧ ∀ r2 y', Q2 r2 y' → r = r2 ∧ Rel (k + 1) x' y')
    (o_setSink : ∀ (k : Nat) (x y : Sto) (a1 : Int), k < K → Rel k x y → (-2147483648 ≤ a1 ∧ a1 < 2147483648) → ∃ Q : Int → Sto → Prop, K_Cg_setSink a1 x Q ∧ ∀ r x', Q r x' → ∃ Q2 : Int → Sto → Prop, K_Mo_setSink a1 y Q2 ∧ ∀ r2 y', Q2 r2 y' → r = r2 ∧ Rel (k + 1) x' y')
    (o_type : ∀ (k : Nat) (x y : Sto) (a1 : Int), k < K → Rel k x y → (0 ≤ a1 ∧ a1 < 65536) → ∃ Q : Int → Sto → Prop, K_Cg_type a1 x Q ∧ ∀ r x', Q r x' → ∃ Q2 : Int → Sto → Prop, K_Mo_type a1 y Q2 ∧ ∀ r2 y', Q2 r2 y' → r = r2 ∧ Rel (k + 1) x' y')
    (o_clearText : ∀ (k : Nat) (x y : Sto), k < K → Rel k x y → ∃ Q : Int → Sto → Prop, K_Cg_clearText x Q ∧ ∀ r x', Q r x' → ∃ Q2 : Int → Sto → Prop, K_Mo_clearText y Q2 ∧ ∀ r2 y', Q2 r2 y' → r = r2 ∧ Rel (k + 1) x' y')
    (o_readGraph : ∀ (k : Nat) (x y : Sto), k < K → Rel k x y → ∃ Q : Int → Sto → Prop, K_Cg_readGraph x Q ∧ ∀ r x', Q r x' → ∃ Q2 : Int → Sto → Prop, K_Mo_readGraph y Q2 ∧ ∀ r2 y', Q2 r2 y' → r = r2 ∧ Rel (k + 1) x' y')
    (o_value : ∀ (k : Nat) (x y : Sto) (a1 : Int), k < K → Rel k x y → (-2147483648 ≤ a1 ∧ a1 < 2147483648) → ∃ Q : Int → Sto → Prop, K_Cg_value a1 x Q ∧ ∀ r x', Q r x' → ∃ Q2 : Int → Sto → Prop, K_Mo_value a1 y Q2 ∧ ∀ r2 y', Q2 r2 y' → r = r2 ∧ Rel (k + 1) x' y')
    (o_degree : ∀ (k : Nat) (x y : Sto) (a1 : Int), k < K → Rel k x y → (-2147483648 ≤ a1 ∧ a1 < 2147483648) → ∃ Q : Int → Sto → Prop, K_Cg_degree a1 x Q ∧ ∀ r x', Q r x' → ∃ Q2 : Int → Sto → Prop, K_Mo_degree a1 y Q2 ∧ ∀ r2 y', Q2 r2 y' → r = r2 ∧ Rel (k + 1) x' y')
    (o_edge : ∀ (k : Nat) (x y : Sto) (a1 : Int) (a2 : Int), k < K → Rel k x y → (-2147483648 ≤ a1 ∧ a1 < 2147483648) → (a2 = 0 ∨ a2 = 1) → ∃ Q : Int → Sto → Prop, K_Cg_edge a1 a2 x Q ∧ ∀ r x', Q r x' → ∃ Q2 : Int → Sto → Prop, K_Mo_edge a1 a2 y Q2 ∧ ∀ r2 y', Q2 r2 y' → r = r2 ∧ Rel (k + 1) x' y')
    (o_setChips : ∀ (k : Nat) (x y : Sto) (a1 : Int) (a2 : Int), k < K → Rel k x y → (-2147483648 ≤ a1 ∧ a1 < 2147483648) → (-2147483648 ≤ a2 ∧ a2 < 2147483648) → ∃ Q : Int → Sto → Prop, K_Cg_setChips a1 a2 x Q ∧ ∀ r x', Q r x' → ∃ Q2 : Int → Sto → Prop, K_Mo_setChips a1 a2 y Q2 ∧ ∀ r2 y', Q2 r2 y' → r = r2 ∧ Rel (k + 1) x' y')
    (o_chips : ∀ (k : Nat) (x y : Sto) (a1 : Int), k < K → Rel k x y → (-2147483648 ≤ a1 ∧ a1 < 2147483648) → ∃ Q : Int → Sto → Prop, K_Cg_chips a1 x Q ∧ ∀ r x', Q r x' → ∃ Q2 : Int → Sto → Prop, K_Mo_chips a1 y Q2 ∧ ∀ r2 y', Q2 r2 y' → r = r2 ∧ Rel (k + 1) x' y')
    (o_fire : ∀ (k : Nat) (x y : Sto) (a1 : Int), k < K → Rel k x y → (-2147483648 ≤ a1 ∧ a1 < 2147483648) → ∃ Q : Int → Sto → Prop, K_Cg_fire a1 x Q ∧ ∀ r x', Q r x' → ∃ Q2 : Int → Sto → Prop, K_Mo_fire a1 y Q2 ∧ ∀ r2 y', Q2 r2 y' → r = r2 ∧ Rel (k + 1) x' y')
    (o_stabilize : ∀ (k : Nat) (x y : Sto), k < K → Rel k x y → ∃ Q : Int → Sto → Prop, K_Cg_stabilize x Q ∧ ∀ r x', Q r x' → ∃ Q2 : Int → Sto → Prop, K_Mo_stabilize y Q2 ∧ ∀ r2 y', Q2 r2 y' → r = r2 ∧ Rel (k + 1) x' y')
    (o_firings : ∀ (k : Nat) (x y : Sto) (a1 : Int), k < K → Rel k x y → (-2147483648 ≤ a1 ∧ a1 < 2147483648) → ∃ Q : Int → Sto → Prop, K_Cg_firings a1 x Q ∧ ∀ r x', Q r x' → ∃ Q2 : Int → Sto → Prop, K_Mo_firings a1 y Q2 ∧ ∀ r2 y', Q2 r2 y' → r = r2 ∧ Rel (k + 1) x' y')
    (o_reduce : ∀ (k : Nat) (x y : Sto), k < K → Rel k x y → ∃ Q : Int → Sto → Prop, K_Cg_reduce x Q ∧ ∀ r x', Q r x' → ∃ Q2 : Int → Sto → Prop, K_Mo_reduce y Q2 ∧ ∀ r2 y', Q2 r2 y' → r = r2 ∧ Rel (k + 1) x' y')
    (o_makeRecurrent : ∀ (k : Nat) (x y : Sto), k < K → Rel k x y → ∃ Q : Int → Sto → Prop, K_Cg_makeRecurrent x Q ∧ ∀ r x', Q r x' → ∃ Q2 : Int → Sto → Prop, K_Mo_makeRecurrent y Q2 ∧ ∀ r2 y', Q2 r2 y' → r = r2 ∧ Rel (k + 1) x' y')
    (o_kind : ∀ (k : Nat) (x y : Sto), k < K → Rel k x y → ∃ Q : Int → Sto → Prop, K_Cg_kind x Q ∧ ∀ r x', Q r x' → ∃ Q2 : Int → Sto → Prop, K_Mo_kind y Q2 ∧ ∀ r2 y', Q2 r2 y' → r = r2 ∧ Rel (k + 1) x' y')
    (o_burnt : ∀ (k : Nat) (x y : Sto) (a1 : Int), k < K → Rel k x y → (-2147483648 ≤ a1 ∧ a1 < 2147483648) → ∃ Q : Int → Sto → Prop, K_Cg_burnt a1 x Q ∧ ∀ r x', Q r x' → ∃ Q2 : Int → Sto → Prop, K_Mo_burnt a1 y Q2 ∧ ∀ r2 y', Q2 r2 y' → r = r2 ∧ Rel (k + 1) x' y')
    (o_undo : ∀ (k : Nat) (x y : Sto), k < K → Rel k x y → ∃ Q : Int → Sto → Prop, K_Cg_undo x Q ∧ ∀ r x', Q r x' → ∃ Q2 : Int → Sto → Prop, K_Mo_undo y Q2 ∧ ∀ r2 y', Q2 r2 y' → r = r2 ∧ Rel (k + 1) x' y')
    (o_keep : ∀ (k : Nat) (x y : Sto) (a1 : Int), k < K → Rel k x y → (-2147483648 ≤ a1 ∧ a1 < 2147483648) → ∃ Q : Int → Sto → Prop, K_Cg_keep a1 x Q ∧ ∀ r x', Q r x' → ∃ Q2 : Int → Sto → Prop, K_Mo_keep a1 y Q2 ∧ ∀ r2 y', Q2 r2 y' → r = r2 ∧ Rel (k + 1) x' y')
    (o_load : ∀ (k : Nat) (x y : Sto) (a1 : Int), k < K → Rel k x y → (-2147483648 ≤ a1 ∧ a1 < 2147483648) → ∃ Q : Int → Sto → Prop, K_Cg_load a1 x Q ∧ ∀ r x', Q r x' → ∃ Q2 : Int → Sto → Prop, K_Mo_load a1 y Q2 ∧ ∀ r2 y', Q2 r2 y' → r = r2 ∧ Rel (k + 1) x' y')
    (o_add : ∀ (k : Nat) (x y : Sto) (a1 : Int), k < K → Rel k x y → (-2147483648 ≤ a1 ∧ a1 < 2147483648) → ∃ Q : Int → Sto → Prop, K_Cg_add a1 x Q ∧ ∀ r x', Q r x' → ∃ Q2 : Int → Sto → Prop, K_Mo_add a1 y Q2 ∧ ∀ r2 y', Q2 r2 y' → r = r2 ∧ Rel (k + 1) x' y')
    (o_isSameClass : ∀ (k : Nat) (x y : Sto) (a1 : Int), k < K → Rel k x y → (-2147483648 ≤ a1 ∧ a1 < 2147483648) → ∃ Q : Int → Sto → Prop, K_Cg_isSameClass a1 x Q ∧ ∀ r x', Q r x' → ∃ Q2 : Int → Sto → Prop, K_Mo_isSameClass a1 y Q2 ∧ ∀ r2 y', Q2 r2 y' → r = r2 ∧ Rel (k + 1) x' y')
    (o_treeCount : ∀ (k : Nat) (x y : Sto), k < K → Rel k x y → ∃ Q : Int → Sto → Prop, K_Cg_treeCount x Q ∧ ∀ r x', Q r x' → ∃ Q2 : Int → Sto → Prop, K_Mo_treeCount y Q2 ∧ ∀ r2 y', Q2 r2 y' → r = r2 ∧ Rel (k + 1) x' y')
    (o_identity : ∀ (k : Nat) (x y : Sto) (a1 : Int), k < K → Rel k x y → (-2147483648 ≤ a1 ∧ a1 < 2147483648) → ∃ Q : Int → Sto → Prop, K_Cg_identity a1 x Q ∧ ∀ r x', Q r x' → ∃ Q2 : Int → Sto → Prop, K_Mo_identity a1 y Q2 ∧ ∀ r2 y', Q2 r2 y' → r = r2 ∧ Rel (k + 1) x' y')
    (o_order : ∀ (k : Nat) (x y : Sto), k < K → Rel k x y → ∃ Q : Int → Sto → Prop, K_Cg_order x Q ∧ ∀ r x', Q r x' → ∃ Q2 : Int → Sto → Prop, K_Mo_order y Q2 ∧ ∀ r2 y', Q2 r2 y' → r = r2 ∧ Rel (k + 1) x' y')
    (o_factor : ∀ (k : Nat) (x y : Sto) (a1 : Int), k < K → Rel k x y → (-2147483648 ≤ a1 ∧ a1 < 2147483648) → ∃ Q : Int → Sto → Prop, K_Cg_factor a1 x Q ∧ ∀ r x', Q r x' → ∃ Q2 : Int → Sto → Prop, K_Mo_factor a1 y Q2 ∧ ∀ r2 y', Q2 r2 y' → r = r2 ∧ Rel (k + 1) x' y')
    (o_level : ∀ (k : Nat) (x y : Sto), k < K → Rel k x y → ∃ Q : Int → Sto → Prop, K_Cg_level x Q ∧ ∀ r x', Q r x' → ∃ Q2 : Int → Sto → Prop, K_Mo_level y Q2 ∧ ∀ r2 y', Q2 r2 y' → r = r2 ∧ Rel (k + 1) x' y')
    (o_levelCount : ∀ (k : Nat) (x y : Sto) (a1 : Int), k < K → Rel k x y → (-2147483648 ≤ a1 ∧ a1 < 2147483648) → ∃ Q : Int → Sto → Prop, K_Cg_levelCount a1 x Q ∧ ∀ r x', Q r x' → ∃ Q2 : Int → Sto → Prop, K_Mo_levelCount a1 y Q2 ∧ ∀ r2 y', Q2 r2 y' → r = r2 ∧ Rel (k + 1) x' y')
    (o_tree : ∀ (k : Nat) (x y : Sto), k < K → Rel k x y → ∃ Q : Int → Sto → Prop, K_Cg_tree x Q ∧ ∀ r x', Q r x' → ∃ Q2 : Int → Sto → Prop, K_Mo_tree y Q2 ∧ ∀ r2 y', Q2 r2 y' → r = r2 ∧ Rel (k + 1) x' y')
    (o_takeTree : ∀ (k : Nat) (x y : Sto) (a1 : Int), k < K → Rel k x y → (-2147483648 ≤ a1 ∧ a1 < 2147483648) → ∃ Q : Int → Sto → Prop, K_Cg_takeTree a1 x Q ∧ ∀ r x', Q r x' → ∃ Q2 : Int → Sto → Prop, K_Mo_takeTree a1 y Q2 ∧ ∀ r2 y', Q2 r2 y' → r = r2 ∧ Rel (k + 1) x' y')
    (o_treeAt : ∀ (k : Nat) (x y : Sto) (a1 : Int), k < K → Rel k x y → (-2147483648 ≤ a1 ∧ a1 < 2147483648) → ∃ Q : Int → Sto → Prop, K_Cg_treeAt a1 x Q ∧ ∀ r x', Q r x' → ∃ Q2 : Int → Sto → Prop, K_Mo_treeAt a1 y Q2 ∧ ∀ r2 y', Q2 r2 y' → r = r2 ∧ Rel (k + 1) x' y') :
    ∀ (n k : Nat) (x y : Sto), k + n = K → Rel k x y → Lg b L xs 18 [(0, .ref 0), (1, .ref 1), (2, .ref 2), (3, iV (3 * (k : Int)))] [] x y := by
  intro n
  induction n with
  | zero =>
    intro k x y hkn hR
    refine l_iload_n (npc := 19) dL_law_18 rfl rfl rfl ?_
    refine l_aload_n (npc := 20) dL_law_19 rfl rfl rfl ?_
    refine l_slen (npc := 21) dL_law_20 rfl ?_
    refine l_iconst (npc := 22) dL_law_21 rfl ?_
    refine l_isub (npc := 23) dL_law_22 rfl ?_
    refine l_icmp_gt (npc := 26) (tgt := 885) dL_law_23 rfl (by decide) (by omega) (fun _ => ?_) (fun c => absurd c (by omega))
    refine l_iconst (npc := 886) dL_law_885 rfl ?_
    exact l_ret1 dL_law_886
  | succ n ih =>
    intro k x y hkn hR
    have hk : k < K := by omega
    have hT9 : (3 * (k : Int) + 3) = 3 * ((k + 1 : Nat) : Int) := by omega
    refine l_iload_n (npc := 19) dL_law_18 rfl rfl rfl ?_
    refine l_aload_n (npc := 20) dL_law_19 rfl rfl rfl ?_
    refine l_slen (npc := 21) dL_law_20 rfl ?_
    refine l_iconst (npc := 22) dL_law_21 rfl ?_
    refine l_isub (npc := 23) dL_law_22 rfl ?_
    refine l_icmp_gt (npc := 26) (tgt := 885) dL_law_23 rfl (by decide) (by omega) (fun _ => ?_) (fun c => ?_)
    · refine l_iconst (npc := 886) dL_law_885 rfl ?_
      exact l_ret1 dL_law_886
    · have T9 : ∀ x' y', Rel (k + 1) x' y' → Lg b L xs 879 [(0, .ref 0), (1, .ref 1), (2, .ref 2), (3, iV (3 * (k : Int)))] [] x' y' := fun x' y' h => by
        refine l_iinc (npc := 882) (v := 3 * ((k + 1 : Nat) : Int)) (l' := [(0, .ref 0), (1, .ref 1), (2, .ref 2), (3, iV (3 * ((k + 1 : Nat) : Int)))]) dL_law_879 rfl (by decide) rfl hT9 rfl ?_
        refine l_goto (npc := 18) dL_law_882 (by decide) ?_
        exact ih (k + 1) x' y' (by omega) h
      refine l_aload_n (npc := 27) dL_law_26 rfl rfl rfl ?_
      refine l_iload_n (npc := 28) dL_law_27 rfl rfl rfl ?_
      refine l_sld (npc := 29) dL_law_28 rfl (by omega) (by omega) ?_
      refine l_bipush (npc := 31) (z := 63) dL_law_29 rfl (by decide) ?_
      refine l_iand (npc := 32) dL_law_31 rfl ?_
      generalize hop : iand (xs (Int.toNat (3 * (k : Int)))).toInt 63 = op9
      have hopr : -2147483648 ≤ op9 ∧ op9 < 2147483648 := by rw [← hop]; exact iand_r _ _
      rcases (show op9 = 0 ∨ op9 = 1 ∨ op9 = 2 ∨ op9 = 3 ∨ op9 = 4 ∨ op9 = 5 ∨ op9 = 6 ∨ op9 = 7 ∨ op9 = 8 ∨ op9 = 9 ∨ op9 = 10 ∨ op9 = 11 ∨ op9 = 12 ∨ op9 = 13 ∨ op9 = 14 ∨ op9 = 15 ∨ op9 = 16 ∨ op9 = 17 ∨ op9 = 18 ∨ op9 = 19 ∨ op9 = 20 ∨ op9 = 21 ∨ op9 = 22 ∨ op9 = 23 ∨ op9 = 24 ∨ op9 = 25 ∨ op9 = 26 ∨ op9 = 27 ∨ op9 = 28 ∨ op9 = 29 ∨ op9 = 30 ∨ op9 = 31 ∨ op9 = 32 ∨ (op9 < 0 ∨ 32 < op9) from by omega) with c2 | c2 | c2 | c2 | c2 | c2 | c2 | c2 | c2 | c2 | c2 | c2 | c2 | c2 | c2 | c2 | c2 | c2 | c2 | c2 | c2 | c2 | c2 | c2 | c2 | c2 | c2 | c2 | c2 | c2 | c2 | c2 | c2 | c2
      · -- reset
        refine l_tabIn (j := 0) (tgt := 180) dL_law_32 hopr (by omega) (by omega) rfl (by decide) ?_
        obtain ⟨Q, hq, h9⟩ := o_reset k x y (xs (Int.toNat (3 * (k : Int) + 1))).toInt hk hR (xs_r _)
        refine l_aload_n (npc := 181) dL_law_180 rfl rfl rfl ?_
        refine l_aload_n (npc := 182) dL_law_181 rfl rfl rfl ?_
        refine l_iload_n (npc := 183) dL_law_182 rfl rfl rfl ?_
        refine l_iconst (npc := 184) dL_law_183 rfl ?_
        refine l_iadd (npc := 185) dL_law_184 rfl ?_
        refine l_sld (npc := 186) dL_law_185 rfl (by omega) (by omega) ?_
        refine l_callXI (npc := 189) (n := 1) (as := [iV (xs (Int.toNat (3 * (k : Int) + 1))).toInt]) (st := []) dL_law_186 rfl rfl rfl rfl ⟨⟨twl_348, twl_349, twl_350, twl_65, twl_351⟩, rfl, by decide, by decide, by decide +kernel⟩ (fun _ _ => rfl) rfl (Nat.le_of_ble_eq_true rfl) ⟨rfl, rfl⟩ ⟨by decide, by decide⟩ hq (fun r s1 e1 => ?_)
        obtain ⟨Q2, hq2, h9⟩ := h9 r s1 e1
        refine l_aload_n (npc := 190) dL_law_189 rfl rfl rfl ?_
        refine l_aload_n (npc := 191) dL_law_190 rfl rfl rfl ?_
        refine l_iload_n (npc := 192) dL_law_191 rfl rfl rfl ?_
        refine l_iconst (npc := 193) dL_law_192 rfl ?_
        refine l_iadd (npc := 194) dL_law_193 rfl ?_
        refine l_sld (npc := 195) dL_law_194 rfl (by omega) (by omega) ?_
        refine l_callMI (npc := 198) (n := 1) (as := [iV (xs (Int.toNat (3 * (k : Int) + 1))).toInt]) (st := [iV r]) dL_law_195 rfl rfl rfl rfl ⟨⟨twl_981, twl_982, twl_983, twl_75, twl_984⟩, rfl, by decide, by decide, by decide +kernel⟩ (fun _ _ => rfl) rfl (Nat.le_of_ble_eq_true rfl) ⟨rfl, rfl⟩ ⟨by decide, by decide⟩ hq2 (fun r2 s2 e2 => ?_)
        obtain ⟨rfl, h9⟩ := h9 r2 s2 e2
        refine l_eqI (npc := 879) dL_law_198 (by decide) ?_
        exact T9 _ _ h9
      · -- addEdge
        refine l_tabIn (j := 1) (tgt := 203) dL_law_32 hopr (by omega) (by omega) rfl (by decide) ?_
        obtain ⟨Q, hq, h9⟩ := o_addEdge k x y (xs (Int.toNat (3 * (k : Int) + 1))).toInt (xs (Int.toNat (3 * (k : Int) + 2))).toInt hk hR (xs_r _) (xs_r _)
        refine l_aload_n (npc := 204) dL_law_203 rfl rfl rfl ?_
        refine l_aload_n (npc := 205) dL_law_204 rfl rfl rfl ?_
        refine l_iload_n (npc := 206) dL_law_205 rfl rfl rfl ?_
        refine l_iconst (npc := 207) dL_law_206 rfl ?_
        refine l_iadd (npc := 208) dL_law_207 rfl ?_
        refine l_sld (npc := 209) dL_law_208 rfl (by omega) (by omega) ?_
        refine l_aload_n (npc := 210) dL_law_209 rfl rfl rfl ?_
        refine l_iload_n (npc := 211) dL_law_210 rfl rfl rfl ?_
        refine l_iconst (npc := 212) dL_law_211 rfl ?_
        refine l_iadd (npc := 213) dL_law_212 rfl ?_
        refine l_sld (npc := 214) dL_law_213 rfl (by omega) (by omega) ?_
        refine l_callXI (npc := 217) (n := 2) (as := [iV (xs (Int.toNat (3 * (k : Int) + 1))).toInt, iV (xs (Int.toNat (3 * (k : Int) + 2))).toInt]) (st := []) dL_law_214 rfl rfl rfl rfl ⟨⟨twl_371, twl_372, twl_373, twl_65, twl_374⟩, rfl, by decide, by decide, by decide +kernel⟩ (fun _ _ => rfl) rfl (Nat.le_of_ble_eq_true rfl) ⟨rfl, rfl⟩ ⟨by decide, by decide⟩ hq (fun r s1 e1 => ?_)
        obtain ⟨Q2, hq2, h9⟩ := h9 r s1 e1
        refine l_aload_n (npc := 218) dL_law_217 rfl rfl rfl ?_
        refine l_aload_n (npc := 219) dL_law_218 rfl rfl rfl ?_
        refine l_iload_n (npc := 220) dL_law_219 rfl rfl rfl ?_
        refine l_iconst (npc := 221) dL_law_220 rfl ?_
        refine l_iadd (npc := 222) dL_law_221 rfl ?_
        refine l_sld (npc := 223) dL_law_222 rfl (by omega) (by omega) ?_
        refine l_aload_n (npc := 224) dL_law_223 rfl rfl rfl ?_
        refine l_iload_n (npc := 225) dL_law_224 rfl rfl rfl ?_
        refine l_iconst (npc := 226) dL_law_225 rfl ?_
        refine l_iadd (npc := 227) dL_law_226 rfl ?_
        refine l_sld (npc := 228) dL_law_227 rfl (by omega) (by omega) ?_
        refine l_callMI (npc := 231) (n := 2) (as := [iV (xs (Int.toNat (3 * (k : Int) + 1))).toInt, iV (xs (Int.toNat (3 * (k : Int) + 2))).toInt]) (st := [iV r]) dL_law_228 rfl rfl rfl rfl ⟨⟨twl_988, twl_989, twl_990, twl_75, twl_991⟩, rfl, by decide, by decide, by decide +kernel⟩ (fun _ _ => rfl) rfl (Nat.le_of_ble_eq_true rfl) ⟨rfl, rfl⟩ ⟨by decide, by decide⟩ hq2 (fun r2 s2 e2 => ?_)
        obtain ⟨rfl, h9⟩ := h9 r2 s2 e2
        refine l_eqI (npc := 879) dL_law_231 (by decide) ?_
        exact T9 _ _ h9
      · -- removeEdge
        refine l_tabIn (j := 2) (tgt := 236) dL_law_32 hopr (by omega) (by omega) rfl (by decide) ?_
        obtain ⟨Q, hq, h9⟩ := o_removeEdge k x y (xs (Int.toNat (3 * (k : Int) + 1))).toInt hk hR (xs_r _)
        refine l_aload_n (npc := 237) dL_law_236 rfl rfl rfl ?_
        refine l_aload_n (npc := 238) dL_law_237 rfl rfl rfl ?_
        refine l_iload_n (npc := 239) dL_law_238 rfl rfl rfl ?_
        refine l_iconst (npc := 240) dL_law_239 rfl ?_
        refine l_iadd (npc := 241) dL_law_240 rfl ?_
        refine l_sld (npc := 242) dL_law_241 rfl (by omega) (by omega) ?_
        refine l_callXI (npc := 245) (n := 1) (as := [iV (xs (Int.toNat (3 * (k : Int) + 1))).toInt]) (st := []) dL_law_242 rfl rfl rfl rfl ⟨⟨twl_376, twl_377, twl_378, twl_65, twl_379⟩, rfl, by decide, by decide, by decide +kernel⟩ (fun _ _ => rfl) rfl (Nat.le_of_ble_eq_true rfl) ⟨rfl, rfl⟩ ⟨by decide, by decide⟩ hq (fun r s1 e1 => ?_)
        obtain ⟨Q2, hq2, h9⟩ := h9 r s1 e1
        refine l_aload_n (npc := 246) dL_law_245 rfl rfl rfl ?_
        refine l_aload_n (npc := 247) dL_law_246 rfl rfl rfl ?_
        refine l_iload_n (npc := 248) dL_law_247 rfl rfl rfl ?_
        refine l_iconst (npc := 249) dL_law_248 rfl ?_
        refine l_iadd (npc := 250) dL_law_249 rfl ?_
        refine l_sld (npc := 251) dL_law_250 rfl (by omega) (by omega) ?_
        refine l_callMI (npc := 254) (n := 1) (as := [iV (xs (Int.toNat (3 * (k : Int) + 1))).toInt]) (st := [iV r]) dL_law_251 rfl rfl rfl rfl ⟨⟨twl_996, twl_997, twl_998, twl_75, twl_999⟩, rfl, by decide, by decide, by decide +kernel⟩ (fun _ _ => rfl) rfl (Nat.le_of_ble_eq_true rfl) ⟨rfl, rfl⟩ ⟨by decide, by decide⟩ hq2 (fun r2 s2 e2 => ?_)
        obtain ⟨rfl, h9⟩ := h9 r2 s2 e2
        refine l_eqI (npc := 879) dL_law_254 (by decide) ?_
        exact T9 _ _ h9
      · -- setSink
        refine l_tabIn (j := 3) (tgt := 259) dL_law_32 hopr (by omega) (by omega) rfl (by decide) ?_
        obtain ⟨Q, hq, h9⟩ := o_setSink k x y (xs (Int.toNat (3 * (k : Int) + 1))).toInt hk hR (xs_r _)
        refine l_aload_n (npc := 260) dL_law_259 rfl rfl rfl ?_
        refine l_aload_n (npc := 261) dL_law_260 rfl rfl rfl ?_
        refine l_iload_n (npc := 262) dL_law_261 rfl rfl rfl ?_
        refine l_iconst (npc := 263) dL_law_262 rfl ?_
        refine l_iadd (npc := 264) dL_law_263 rfl ?_
        refine l_sld (npc := 265) dL_law_264 rfl (by omega) (by omega) ?_
        refine l_callXI (npc := 268) (n := 1) (as := [iV (xs (Int.toNat (3 * (k : Int) + 1))).toInt]) (st := []) dL_law_265 rfl rfl rfl rfl ⟨⟨twl_389, twl_390, twl_391, twl_65, twl_392⟩, rfl, by decide, by decide, by decide +kernel⟩ (fun _ _ => rfl) rfl (Nat.le_of_ble_eq_true rfl) ⟨rfl, rfl⟩ ⟨by decide, by decide⟩ hq (fun r s1 e1 => ?_)
        obtain ⟨Q2, hq2, h9⟩ := h9 r s1 e1
        refine l_aload_n (npc := 269) dL_law_268 rfl rfl rfl ?_
        refine l_aload_n (npc := 270) dL_law_269 rfl rfl rfl ?_
        refine l_iload_n (npc := 271) dL_law_270 rfl rfl rfl ?_
        refine l_iconst (npc := 272) dL_law_271 rfl ?_
        refine l_iadd (npc := 273) dL_law_272 rfl ?_
        refine l_sld (npc := 274) dL_law_273 rfl (by omega) (by omega) ?_
        refine l_callMI (npc := 277) (n := 1) (as := [iV (xs (Int.toNat (3 * (k : Int) + 1))).toInt]) (st := [iV r]) dL_law_274 rfl rfl rfl rfl ⟨⟨twl_1000, twl_1001, twl_1002, twl_75, twl_1003⟩, rfl, by decide, by decide, by decide +kernel⟩ (fun _ _ => rfl) rfl (Nat.le_of_ble_eq_true rfl) ⟨rfl, rfl⟩ ⟨by decide, by decide⟩ hq2 (fun r2 s2 e2 => ?_)
        obtain ⟨rfl, h9⟩ := h9 r2 s2 e2
        refine l_eqI (npc := 879) dL_law_277 (by decide) ?_
        exact T9 _ _ h9
      · -- type
        refine l_tabIn (j := 4) (tgt := 282) dL_law_32 hopr (by omega) (by omega) rfl (by decide) ?_
        obtain ⟨Q, hq, h9⟩ := o_type k x y ((xs (Int.toNat (3 * (k : Int) + 1))).toInt % 65536) hk hR ⟨by omega, by omega⟩
        refine l_aload_n (npc := 283) dL_law_282 rfl rfl rfl ?_
        refine l_aload_n (npc := 284) dL_law_283 rfl rfl rfl ?_
        refine l_iload_n (npc := 285) dL_law_284 rfl rfl rfl ?_
        refine l_iconst (npc := 286) dL_law_285 rfl ?_
        refine l_iadd (npc := 287) dL_law_286 rfl ?_
        refine l_sld (npc := 288) dL_law_287 rfl (by omega) (by omega) ?_
        refine l_i2c (npc := 289) dL_law_288 rfl (xs_r _) ?_
        refine l_callXI (npc := 292) (n := 1) (as := [iV ((xs (Int.toNat (3 * (k : Int) + 1))).toInt % 65536)]) (st := []) dL_law_289 rfl rfl rfl rfl ⟨⟨twl_393, twl_394, twl_395, twl_65, twl_396⟩, rfl, by decide, by decide, by decide +kernel⟩ (fun _ _ => rfl) rfl (Nat.le_of_ble_eq_true rfl) ⟨rfl, rfl⟩ ⟨by decide, by decide⟩ hq (fun r s1 e1 => ?_)
        obtain ⟨Q2, hq2, h9⟩ := h9 r s1 e1
        refine l_aload_n (npc := 293) dL_law_292 rfl rfl rfl ?_
        refine l_aload_n (npc := 294) dL_law_293 rfl rfl rfl ?_
        refine l_iload_n (npc := 295) dL_law_294 rfl rfl rfl ?_
        refine l_iconst (npc := 296) dL_law_295 rfl ?_
        refine l_iadd (npc := 297) dL_law_296 rfl ?_
        refine l_sld (npc := 298) dL_law_297 rfl (by omega) (by omega) ?_
        refine l_i2c (npc := 299) dL_law_298 rfl (xs_r _) ?_
        refine l_callMI (npc := 302) (n := 1) (as := [iV ((xs (Int.toNat (3 * (k : Int) + 1))).toInt % 65536)]) (st := [iV r]) dL_law_299 rfl rfl rfl rfl ⟨⟨twl_1004, twl_1005, twl_1006, twl_75, twl_1007⟩, rfl, by decide, by decide, by decide +kernel⟩ (fun _ _ => rfl) rfl (Nat.le_of_ble_eq_true rfl) ⟨rfl, rfl⟩ ⟨by decide, by decide⟩ hq2 (fun r2 s2 e2 => ?_)
        obtain ⟨rfl, h9⟩ := h9 r2 s2 e2
        refine l_eqI (npc := 879) dL_law_302 (by decide) ?_
        exact T9 _ _ h9
      · -- clearText
        refine l_tabIn (j := 5) (tgt := 307) dL_law_32 hopr (by omega) (by omega) rfl (by decide) ?_
        obtain ⟨Q, hq, h9⟩ := o_clearText k x y hk hR 
        refine l_aload_n (npc := 308) dL_law_307 rfl rfl rfl ?_
        refine l_callXI (npc := 311) (n := 0) (as := []) (st := []) dL_law_308 rfl rfl rfl rfl ⟨⟨twl_401, twl_402, twl_403, twl_65, twl_404⟩, rfl, by decide, by decide, by decide +kernel⟩ (fun _ _ => rfl) rfl (Nat.le_of_ble_eq_true rfl) ⟨rfl, rfl⟩ ⟨by decide, by decide⟩ hq (fun r s1 e1 => ?_)
        obtain ⟨Q2, hq2, h9⟩ := h9 r s1 e1
        refine l_aload_n (npc := 312) dL_law_311 rfl rfl rfl ?_
        refine l_callMI (npc := 315) (n := 0) (as := []) (st := [iV r]) dL_law_312 rfl rfl rfl rfl ⟨⟨twl_1008, twl_1009, twl_1010, twl_75, twl_1011⟩, rfl, by decide, by decide, by decide +kernel⟩ (fun _ _ => rfl) rfl (Nat.le_of_ble_eq_true rfl) ⟨rfl, rfl⟩ ⟨by decide, by decide⟩ hq2 (fun r2 s2 e2 => ?_)
        obtain ⟨rfl, h9⟩ := h9 r2 s2 e2
        refine l_eqI (npc := 879) dL_law_315 (by decide) ?_
        exact T9 _ _ h9
      · -- readGraph
        refine l_tabIn (j := 6) (tgt := 320) dL_law_32 hopr (by omega) (by omega) rfl (by decide) ?_
        obtain ⟨Q, hq, h9⟩ := o_readGraph k x y hk hR 
        refine l_aload_n (npc := 321) dL_law_320 rfl rfl rfl ?_
        refine l_callXI (npc := 324) (n := 0) (as := []) (st := []) dL_law_321 rfl rfl rfl rfl ⟨⟨twl_405, twl_406, twl_407, twl_65, twl_408⟩, rfl, by decide, by decide, by decide +kernel⟩ (fun _ _ => rfl) rfl (Nat.le_of_ble_eq_true rfl) ⟨rfl, rfl⟩ ⟨by decide, by decide⟩ hq (fun r s1 e1 => ?_)
        obtain ⟨Q2, hq2, h9⟩ := h9 r s1 e1
        refine l_aload_n (npc := 325) dL_law_324 rfl rfl rfl ?_
        refine l_callMI (npc := 328) (n := 0) (as := []) (st := [iV r]) dL_law_325 rfl rfl rfl rfl ⟨⟨twl_1012, twl_1013, twl_1014, twl_75, twl_1015⟩, rfl, by decide, by decide, by decide +kernel⟩ (fun _ _ => rfl) rfl (Nat.le_of_ble_eq_true rfl) ⟨rfl, rfl⟩ ⟨by decide, by decide⟩ hq2 (fun r2 s2 e2 => ?_)
        obtain ⟨rfl, h9⟩ := h9 r2 s2 e2
        refine l_eqI (npc := 879) dL_law_328 (by decide) ?_
        exact T9 _ _ h9
      · -- value
        refine l_tabIn (j := 7) (tgt := 333) dL_law_32 hopr (by omega) (by omega) rfl (by decide) ?_
        obtain ⟨Q, hq, h9⟩ := o_value k x y (xs (Int.toNat (3 * (k : Int) + 1))).toInt hk hR (xs_r _)
        refine l_aload_n (npc := 334) dL_law_333 rfl rfl rfl ?_
        refine l_aload_n (npc := 335) dL_law_334 rfl rfl rfl ?_
        refine l_iload_n (npc := 336) dL_law_335 rfl rfl rfl ?_
        refine l_iconst (npc := 337) dL_law_336 rfl ?_
        refine l_iadd (npc := 338) dL_law_337 rfl ?_
        refine l_sld (npc := 339) dL_law_338 rfl (by omega) (by omega) ?_
        refine l_callXI (npc := 342) (n := 1) (as := [iV (xs (Int.toNat (3 * (k : Int) + 1))).toInt]) (st := []) dL_law_339 rfl rfl rfl rfl ⟨⟨twl_496, twl_497, twl_498, twl_65, twl_499⟩, rfl, by decide, by decide, by decide +kernel⟩ (fun _ _ => rfl) rfl (Nat.le_of_ble_eq_true rfl) ⟨rfl, rfl⟩ ⟨by decide, by decide⟩ hq (fun r s1 e1 => ?_)
        obtain ⟨Q2, hq2, h9⟩ := h9 r s1 e1
        refine l_aload_n (npc := 343) dL_law_342 rfl rfl rfl ?_
        refine l_aload_n (npc := 344) dL_law_343 rfl rfl rfl ?_
        refine l_iload_n (npc := 345) dL_law_344 rfl rfl rfl ?_
        refine l_iconst (npc := 346) dL_law_345 rfl ?_
        refine l_iadd (npc := 347) dL_law_346 rfl ?_
        refine l_sld (npc := 348) dL_law_347 rfl (by omega) (by omega) ?_
        refine l_callMI (npc := 351) (n := 1) (as := [iV (xs (Int.toNat (3 * (k : Int) + 1))).toInt]) (st := [iV r]) dL_law_348 rfl rfl rfl rfl ⟨⟨twl_1028, twl_1029, twl_1030, twl_75, twl_1031⟩, rfl, by decide, by decide, by decide +kernel⟩ (fun _ _ => rfl) rfl (Nat.le_of_ble_eq_true rfl) ⟨rfl, rfl⟩ ⟨by decide, by decide⟩ hq2 (fun r2 s2 e2 => ?_)
        obtain ⟨rfl, h9⟩ := h9 r2 s2 e2
        refine l_eqI (npc := 879) dL_law_351 (by decide) ?_
        exact T9 _ _ h9
      · -- degree
        refine l_tabIn (j := 8) (tgt := 356) dL_law_32 hopr (by omega) (by omega) rfl (by decide) ?_
        obtain ⟨Q, hq, h9⟩ := o_degree k x y (xs (Int.toNat (3 * (k : Int) + 1))).toInt hk hR (xs_r _)
        refine l_aload_n (npc := 357) dL_law_356 rfl rfl rfl ?_
        refine l_aload_n (npc := 358) dL_law_357 rfl rfl rfl ?_
        refine l_iload_n (npc := 359) dL_law_358 rfl rfl rfl ?_
        refine l_iconst (npc := 360) dL_law_359 rfl ?_
        refine l_iadd (npc := 361) dL_law_360 rfl ?_
        refine l_sld (npc := 362) dL_law_361 rfl (by omega) (by omega) ?_
        refine l_callXI (npc := 365) (n := 1) (as := [iV (xs (Int.toNat (3 * (k : Int) + 1))).toInt]) (st := []) dL_law_362 rfl rfl rfl rfl ⟨⟨twl_527, twl_528, twl_529, twl_65, twl_530⟩, rfl, by decide, by decide, by decide +kernel⟩ (fun _ _ => rfl) rfl (Nat.le_of_ble_eq_true rfl) ⟨rfl, rfl⟩ ⟨by decide, by decide⟩ hq (fun r s1 e1 => ?_)
        obtain ⟨Q2, hq2, h9⟩ := h9 r s1 e1
        refine l_aload_n (npc := 366) dL_law_365 rfl rfl rfl ?_
        refine l_aload_n (npc := 367) dL_law_366 rfl rfl rfl ?_
        refine l_iload_n (npc := 368) dL_law_367 rfl rfl rfl ?_
        refine l_iconst (npc := 369) dL_law_368 rfl ?_
        refine l_iadd (npc := 370) dL_law_369 rfl ?_
        refine l_sld (npc := 371) dL_law_370 rfl (by omega) (by omega) ?_
        refine l_callMI (npc := 374) (n := 1) (as := [iV (xs (Int.toNat (3 * (k : Int) + 1))).toInt]) (st := [iV r]) dL_law_371 rfl rfl rfl rfl ⟨⟨twl_1044, twl_1045, twl_1046, twl_75, twl_1047⟩, rfl, by decide, by decide, by decide +kernel⟩ (fun _ _ => rfl) rfl (Nat.le_of_ble_eq_true rfl) ⟨rfl, rfl⟩ ⟨by decide, by decide⟩ hq2 (fun r2 s2 e2 => ?_)
        obtain ⟨rfl, h9⟩ := h9 r2 s2 e2
        refine l_eqI (npc := 879) dL_law_374 (by decide) ?_
        exact T9 _ _ h9
      · -- edge
        refine l_tabIn (j := 9) (tgt := 379) dL_law_32 hopr (by omega) (by omega) rfl (by decide) ?_
        by_cases hz : (xs (Int.toNat (3 * (k : Int) + 2))).toInt = 0
        · obtain ⟨Q, hq, h9⟩ := o_edge k x y (xs (Int.toNat (3 * (k : Int) + 1))).toInt 0 hk hR (xs_r _) (by decide)
          refine l_aload_n (npc := 380) dL_law_379 rfl rfl rfl ?_
          refine l_aload_n (npc := 381) dL_law_380 rfl rfl rfl ?_
          refine l_iload_n (npc := 382) dL_law_381 rfl rfl rfl ?_
          refine l_iconst (npc := 383) dL_law_382 rfl ?_
          refine l_iadd (npc := 384) dL_law_383 rfl ?_
          refine l_sld (npc := 385) dL_law_384 rfl (by omega) (by omega) ?_
          refine l_aload_n (npc := 386) dL_law_385 rfl rfl rfl ?_
          refine l_iload_n (npc := 387) dL_law_386 rfl rfl rfl ?_
          refine l_iconst (npc := 388) dL_law_387 rfl ?_
          refine l_iadd (npc := 389) dL_law_388 rfl ?_
          refine l_sld (npc := 390) dL_law_389 rfl (by omega) (by omega) ?_
          refine l_if_eq (npc := 393) (tgt := 397) dL_law_390 rfl (by decide) (xs_r _) (fun _ => ?_) (fun c9 => absurd hz c9)
          refine l_iconst (npc := 398) dL_law_397 rfl ?_
          refine l_callXI (npc := 401) (n := 2) (as := [iV (xs (Int.toNat (3 * (k : Int) + 1))).toInt, iV 0]) (st := []) dL_law_398 rfl rfl rfl rfl ⟨⟨twl_532, twl_533, twl_534, twl_65, twl_535⟩, rfl, by decide, by decide, by decide +kernel⟩ (fun _ _ => rfl) rfl (Nat.le_of_ble_eq_true rfl) ⟨rfl, rfl⟩ ⟨by decide, by decide⟩ hq (fun r s1 e1 => ?_)
          obtain ⟨Q2, hq2, h9⟩ := h9 r s1 e1
          refine l_aload_n (npc := 402) dL_law_401 rfl rfl rfl ?_
          refine l_aload_n (npc := 403) dL_law_402 rfl rfl rfl ?_
          refine l_iload_n (npc := 404) dL_law_403 rfl rfl rfl ?_
          refine l_iconst (npc := 405) dL_law_404 rfl ?_
          refine l_iadd (npc := 406) dL_law_405 rfl ?_
          refine l_sld (npc := 407) dL_law_406 rfl (by omega) (by omega) ?_
          refine l_aload_n (npc := 408) dL_law_407 rfl rfl rfl ?_
          refine l_iload_n (npc := 409) dL_law_408 rfl rfl rfl ?_
          refine l_iconst (npc := 410) dL_law_409 rfl ?_
          refine l_iadd (npc := 411) dL_law_410 rfl ?_
          refine l_sld (npc := 412) dL_law_411 rfl (by omega) (by omega) ?_
          refine l_if_eq (npc := 415) (tgt := 419) dL_law_412 rfl (by decide) (xs_r _) (fun _ => ?_) (fun c9 => absurd hz c9)
          refine l_iconst (npc := 420) dL_law_419 rfl ?_
          refine l_callMI (npc := 423) (n := 2) (as := [iV (xs (Int.toNat (3 * (k : Int) + 1))).toInt, iV 0]) (st := [iV r]) dL_law_420 rfl rfl rfl rfl ⟨⟨twl_1048, twl_1049, twl_1050, twl_75, twl_1051⟩, rfl, by decide, by decide, by decide +kernel⟩ (fun _ _ => rfl) rfl (Nat.le_of_ble_eq_true rfl) ⟨rfl, rfl⟩ ⟨by decide, by decide⟩ hq2 (fun r2 s2 e2 => ?_)
          obtain ⟨rfl, h9⟩ := h9 r2 s2 e2
          refine l_eqI (npc := 879) dL_law_423 (by decide) ?_
          exact T9 _ _ h9
        · obtain ⟨Q, hq, h9⟩ := o_edge k x y (xs (Int.toNat (3 * (k : Int) + 1))).toInt 1 hk hR (xs_r _) (by decide)
          refine l_aload_n (npc := 380) dL_law_379 rfl rfl rfl ?_
          refine l_aload_n (npc := 381) dL_law_380 rfl rfl rfl ?_
          refine l_iload_n (npc := 382) dL_law_381 rfl rfl rfl ?_
          refine l_iconst (npc := 383) dL_law_382 rfl ?_
          refine l_iadd (npc := 384) dL_law_383 rfl ?_
          refine l_sld (npc := 385) dL_law_384 rfl (by omega) (by omega) ?_
          refine l_aload_n (npc := 386) dL_law_385 rfl rfl rfl ?_
          refine l_iload_n (npc := 387) dL_law_386 rfl rfl rfl ?_
          refine l_iconst (npc := 388) dL_law_387 rfl ?_
          refine l_iadd (npc := 389) dL_law_388 rfl ?_
          refine l_sld (npc := 390) dL_law_389 rfl (by omega) (by omega) ?_
          refine l_if_eq (npc := 393) (tgt := 397) dL_law_390 rfl (by decide) (xs_r _) (fun c9 => absurd c9 hz) (fun _ => ?_)
          refine l_iconst (npc := 394) dL_law_393 rfl ?_
          refine l_goto (npc := 398) dL_law_394 (by decide) ?_
          refine l_callXI (npc := 401) (n := 2) (as := [iV (xs (Int.toNat (3 * (k : Int) + 1))).toInt, iV 1]) (st := []) dL_law_398 rfl rfl rfl rfl ⟨⟨twl_532, twl_533, twl_534, twl_65, twl_535⟩, rfl, by decide, by decide, by decide +kernel⟩ (fun _ _ => rfl) rfl (Nat.le_of_ble_eq_true rfl) ⟨rfl, rfl⟩ ⟨by decide, by decide⟩ hq (fun r s1 e1 => ?_)
          obtain ⟨Q2, hq2, h9⟩ := h9 r s1 e1
          refine l_aload_n (npc := 402) dL_law_401 rfl rfl rfl ?_
          refine l_aload_n (npc := 403) dL_law_402 rfl rfl rfl ?_
          refine l_iload_n (npc := 404) dL_law_403 rfl rfl rfl ?_
          refine l_iconst (npc := 405) dL_law_404 rfl ?_
          refine l_iadd (npc := 406) dL_law_405 rfl ?_
          refine l_sld (npc := 407) dL_law_406 rfl (by omega) (by omega) ?_
          refine l_aload_n (npc := 408) dL_law_407 rfl rfl rfl ?_
          refine l_iload_n (npc := 409) dL_law_408 rfl rfl rfl ?_
          refine l_iconst (npc := 410) dL_law_409 rfl ?_
          refine l_iadd (npc := 411) dL_law_410 rfl ?_
          refine l_sld (npc := 412) dL_law_411 rfl (by omega) (by omega) ?_
          refine l_if_eq (npc := 415) (tgt := 419) dL_law_412 rfl (by decide) (xs_r _) (fun c9 => absurd c9 hz) (fun _ => ?_)
          refine l_iconst (npc := 416) dL_law_415 rfl ?_
          refine l_goto (npc := 420) dL_law_416 (by decide) ?_
          refine l_callMI (npc := 423) (n := 2) (as := [iV (xs (Int.toNat (3 * (k : Int) + 1))).toInt, iV 1]) (st := [iV r]) dL_law_420 rfl rfl rfl rfl ⟨⟨twl_1048, twl_1049, twl_1050, twl_75, twl_1051⟩, rfl, by decide, by decide, by decide +kernel⟩ (fun _ _ => rfl) rfl (Nat.le_of_ble_eq_true rfl) ⟨rfl, rfl⟩ ⟨by decide, by decide⟩ hq2 (fun r2 s2 e2 => ?_)
          obtain ⟨rfl, h9⟩ := h9 r2 s2 e2
          refine l_eqI (npc := 879) dL_law_423 (by decide) ?_
          exact T9 _ _ h9
      · -- setChips
        refine l_tabIn (j := 10) (tgt := 428) dL_law_32 hopr (by omega) (by omega) rfl (by decide) ?_
        obtain ⟨Q, hq, h9⟩ := o_setChips k x y (xs (Int.toNat (3 * (k : Int) + 1))).toInt (xs (Int.toNat (3 * (k : Int) + 2))).toInt hk hR (xs_r _) (xs_r _)
        refine l_aload_n (npc := 429) dL_law_428 rfl rfl rfl ?_
        refine l_aload_n (npc := 430) dL_law_429 rfl rfl rfl ?_
        refine l_iload_n (npc := 431) dL_law_430 rfl rfl rfl ?_
        refine l_iconst (npc := 432) dL_law_431 rfl ?_
        refine l_iadd (npc := 433) dL_law_432 rfl ?_
        refine l_sld (npc := 434) dL_law_433 rfl (by omega) (by omega) ?_
        refine l_aload_n (npc := 435) dL_law_434 rfl rfl rfl ?_
        refine l_iload_n (npc := 436) dL_law_435 rfl rfl rfl ?_
        refine l_iconst (npc := 437) dL_law_436 rfl ?_
        refine l_iadd (npc := 438) dL_law_437 rfl ?_
        refine l_sld (npc := 439) dL_law_438 rfl (by omega) (by omega) ?_
        refine l_callXI (npc := 442) (n := 2) (as := [iV (xs (Int.toNat (3 * (k : Int) + 1))).toInt, iV (xs (Int.toNat (3 * (k : Int) + 2))).toInt]) (st := []) dL_law_439 rfl rfl rfl rfl ⟨⟨twl_536, twl_537, twl_538, twl_65, twl_539⟩, rfl, by decide, by decide, by decide +kernel⟩ (fun _ _ => rfl) rfl (Nat.le_of_ble_eq_true rfl) ⟨rfl, rfl⟩ ⟨by decide, by decide⟩ hq (fun r s1 e1 => ?_)
        obtain ⟨Q2, hq2, h9⟩ := h9 r s1 e1
        refine l_aload_n (npc := 443) dL_law_442 rfl rfl rfl ?_
        refine l_aload_n (npc := 444) dL_law_443 rfl rfl rfl ?_
        refine l_iload_n (npc := 445) dL_law_444 rfl rfl rfl ?_
        refine l_iconst (npc := 446) dL_law_445 rfl ?_
        refine l_iadd (npc := 447) dL_law_446 rfl ?_
        refine l_sld (npc := 448) dL_law_447 rfl (by omega) (by omega) ?_
        refine l_aload_n (npc := 449) dL_law_448 rfl rfl rfl ?_
        refine l_iload_n (npc := 450) dL_law_449 rfl rfl rfl ?_
        refine l_iconst (npc := 451) dL_law_450 rfl ?_
        refine l_iadd (npc := 452) dL_law_451 rfl ?_
        refine l_sld (npc := 453) dL_law_452 rfl (by omega) (by omega) ?_
        refine l_callMI (npc := 456) (n := 2) (as := [iV (xs (Int.toNat (3 * (k : Int) + 1))).toInt, iV (xs (Int.toNat (3 * (k : Int) + 2))).toInt]) (st := [iV r]) dL_law_453 rfl rfl rfl rfl ⟨⟨twl_1056, twl_1057, twl_1058, twl_75, twl_1059⟩, rfl, by decide, by decide, by decide +kernel⟩ (fun _ _ => rfl) rfl (Nat.le_of_ble_eq_true rfl) ⟨rfl, rfl⟩ ⟨by decide, by decide⟩ hq2 (fun r2 s2 e2 => ?_)
        obtain ⟨rfl, h9⟩ := h9 r2 s2 e2
        refine l_eqI (npc := 879) dL_law_456 (by decide) ?_
        exact T9 _ _ h9
      · -- chips
        refine l_tabIn (j := 11) (tgt := 461) dL_law_32 hopr (by omega) (by omega) rfl (by decide) ?_
        obtain ⟨Q, hq, h9⟩ := o_chips k x y (xs (Int.toNat (3 * (k : Int) + 1))).toInt hk hR (xs_r _)
        refine l_aload_n (npc := 462) dL_law_461 rfl rfl rfl ?_
        refine l_aload_n (npc := 463) dL_law_462 rfl rfl rfl ?_
        refine l_iload_n (npc := 464) dL_law_463 rfl rfl rfl ?_
        refine l_iconst (npc := 465) dL_law_464 rfl ?_
        refine l_iadd (npc := 466) dL_law_465 rfl ?_
        refine l_sld (npc := 467) dL_law_466 rfl (by omega) (by omega) ?_
        refine l_callXI (npc := 470) (n := 1) (as := [iV (xs (Int.toNat (3 * (k : Int) + 1))).toInt]) (st := []) dL_law_467 rfl rfl rfl rfl ⟨⟨twl_551, twl_552, twl_553, twl_65, twl_554⟩, rfl, by decide, by decide, by decide +kernel⟩ (fun _ _ => rfl) rfl (Nat.le_of_ble_eq_true rfl) ⟨rfl, rfl⟩ ⟨by decide, by decide⟩ hq (fun r s1 e1 => ?_)
        obtain ⟨Q2, hq2, h9⟩ := h9 r s1 e1
        refine l_aload_n (npc := 471) dL_law_470 rfl rfl rfl ?_
        refine l_aload_n (npc := 472) dL_law_471 rfl rfl rfl ?_
        refine l_iload_n (npc := 473) dL_law_472 rfl rfl rfl ?_
        refine l_iconst (npc := 474) dL_law_473 rfl ?_
        refine l_iadd (npc := 475) dL_law_474 rfl ?_
        refine l_sld (npc := 476) dL_law_475 rfl (by omega) (by omega) ?_
        refine l_callMI (npc := 479) (n := 1) (as := [iV (xs (Int.toNat (3 * (k : Int) + 1))).toInt]) (st := [iV r]) dL_law_476 rfl rfl rfl rfl ⟨⟨twl_1068, twl_1069, twl_1070, twl_75, twl_1071⟩, rfl, by decide, by decide, by decide +kernel⟩ (fun _ _ => rfl) rfl (Nat.le_of_ble_eq_true rfl) ⟨rfl, rfl⟩ ⟨by decide, by decide⟩ hq2 (fun r2 s2 e2 => ?_)
        obtain ⟨rfl, h9⟩ := h9 r2 s2 e2
        refine l_eqI (npc := 879) dL_law_479 (by decide) ?_
        exact T9 _ _ h9
      · -- fire
        refine l_tabIn (j := 12) (tgt := 484) dL_law_32 hopr (by omega) (by omega) rfl (by decide) ?_
        obtain ⟨Q, hq, h9⟩ := o_fire k x y (xs (Int.toNat (3 * (k : Int) + 1))).toInt hk hR (xs_r _)
        refine l_aload_n (npc := 485) dL_law_484 rfl rfl rfl ?_
        refine l_aload_n (npc := 486) dL_law_485 rfl rfl rfl ?_
        refine l_iload_n (npc := 487) dL_law_486 rfl rfl rfl ?_
        refine l_iconst (npc := 488) dL_law_487 rfl ?_
        refine l_iadd (npc := 489) dL_law_488 rfl ?_
        refine l_sld (npc := 490) dL_law_489 rfl (by omega) (by omega) ?_
        refine l_callXI (npc := 493) (n := 1) (as := [iV (xs (Int.toNat (3 * (k : Int) + 1))).toInt]) (st := []) dL_law_490 rfl rfl rfl rfl ⟨⟨twl_555, twl_556, twl_557, twl_65, twl_558⟩, rfl, by decide, by decide, by decide +kernel⟩ (fun _ _ => rfl) rfl (Nat.le_of_ble_eq_true rfl) ⟨rfl, rfl⟩ ⟨by decide, by decide⟩ hq (fun r s1 e1 => ?_)
        obtain ⟨Q2, hq2, h9⟩ := h9 r s1 e1
        refine l_aload_n (npc := 494) dL_law_493 rfl rfl rfl ?_
        refine l_aload_n (npc := 495) dL_law_494 rfl rfl rfl ?_
        refine l_iload_n (npc := 496) dL_law_495 rfl rfl rfl ?_
        refine l_iconst (npc := 497) dL_law_496 rfl ?_
        refine l_iadd (npc := 498) dL_law_497 rfl ?_
        refine l_sld (npc := 499) dL_law_498 rfl (by omega) (by omega) ?_
        refine l_callMI (npc := 502) (n := 1) (as := [iV (xs (Int.toNat (3 * (k : Int) + 1))).toInt]) (st := [iV r]) dL_law_499 rfl rfl rfl rfl ⟨⟨twl_1072, twl_1073, twl_1074, twl_75, twl_1075⟩, rfl, by decide, by decide, by decide +kernel⟩ (fun _ _ => rfl) rfl (Nat.le_of_ble_eq_true rfl) ⟨rfl, rfl⟩ ⟨by decide, by decide⟩ hq2 (fun r2 s2 e2 => ?_)
        obtain ⟨rfl, h9⟩ := h9 r2 s2 e2
        refine l_eqI (npc := 879) dL_law_502 (by decide) ?_
        exact T9 _ _ h9
      · -- stabilize
        refine l_tabIn (j := 13) (tgt := 507) dL_law_32 hopr (by omega) (by omega) rfl (by decide) ?_
        obtain ⟨Q, hq, h9⟩ := o_stabilize k x y hk hR 
        refine l_aload_n (npc := 508) dL_law_507 rfl rfl rfl ?_
        refine l_callXI (npc := 511) (n := 0) (as := []) (st := []) dL_law_508 rfl rfl rfl rfl ⟨⟨twl_574, twl_575, twl_576, twl_65, twl_577⟩, rfl, by decide, by decide, by decide +kernel⟩ (fun _ _ => rfl) rfl (Nat.le_of_ble_eq_true rfl) ⟨rfl, rfl⟩ ⟨by decide, by decide⟩ hq (fun r s1 e1 => ?_)
        obtain ⟨Q2, hq2, h9⟩ := h9 r s1 e1
        refine l_aload_n (npc := 512) dL_law_511 rfl rfl rfl ?_
        refine l_callMI (npc := 515) (n := 0) (as := []) (st := [iV r]) dL_law_512 rfl rfl rfl rfl ⟨⟨twl_1084, twl_1085, twl_1086, twl_75, twl_1087⟩, rfl, by decide, by decide, by decide +kernel⟩ (fun _ _ => rfl) rfl (Nat.le_of_ble_eq_true rfl) ⟨rfl, rfl⟩ ⟨by decide, by decide⟩ hq2 (fun r2 s2 e2 => ?_)
        obtain ⟨rfl, h9⟩ := h9 r2 s2 e2
        refine l_eqI (npc := 879) dL_law_515 (by decide) ?_
        exact T9 _ _ h9
      · -- firings
        refine l_tabIn (j := 14) (tgt := 520) dL_law_32 hopr (by omega) (by omega) rfl (by decide) ?_
        obtain ⟨Q, hq, h9⟩ := o_firings k x y (xs (Int.toNat (3 * (k : Int) + 1))).toInt hk hR (xs_r _)
        refine l_aload_n (npc := 521) dL_law_520 rfl rfl rfl ?_
        refine l_aload_n (npc := 522) dL_law_521 rfl rfl rfl ?_
        refine l_iload_n (npc := 523) dL_law_522 rfl rfl rfl ?_
        refine l_iconst (npc := 524) dL_law_523 rfl ?_
        refine l_iadd (npc := 525) dL_law_524 rfl ?_
        refine l_sld (npc := 526) dL_law_525 rfl (by omega) (by omega) ?_
        refine l_callXI (npc := 529) (n := 1) (as := [iV (xs (Int.toNat (3 * (k : Int) + 1))).toInt]) (st := []) dL_law_526 rfl rfl rfl rfl ⟨⟨twl_590, twl_591, twl_592, twl_65, twl_593⟩, rfl, by decide, by decide, by decide +kernel⟩ (fun _ _ => rfl) rfl (Nat.le_of_ble_eq_true rfl) ⟨rfl, rfl⟩ ⟨by decide, by decide⟩ hq (fun r s1 e1 => ?_)
        obtain ⟨Q2, hq2, h9⟩ := h9 r s1 e1
        refine l_aload_n (npc := 530) dL_law_529 rfl rfl rfl ?_
        refine l_aload_n (npc := 531) dL_law_530 rfl rfl rfl ?_
        refine l_iload_n (npc := 532) dL_law_531 rfl rfl rfl ?_
        refine l_iconst (npc := 533) dL_law_532 rfl ?_
        refine l_iadd (npc := 534) dL_law_533 rfl ?_
        refine l_sld (npc := 535) dL_law_534 rfl (by omega) (by omega) ?_
        refine l_callMI (npc := 538) (n := 1) (as := [iV (xs (Int.toNat (3 * (k : Int) + 1))).toInt]) (st := [iV r]) dL_law_535 rfl rfl rfl rfl ⟨⟨twl_1092, twl_1093, twl_1094, twl_75, twl_1095⟩, rfl, by decide, by decide, by decide +kernel⟩ (fun _ _ => rfl) rfl (Nat.le_of_ble_eq_true rfl) ⟨rfl, rfl⟩ ⟨by decide, by decide⟩ hq2 (fun r2 s2 e2 => ?_)
        obtain ⟨rfl, h9⟩ := h9 r2 s2 e2
        refine l_eqI (npc := 879) dL_law_538 (by decide) ?_
        exact T9 _ _ h9
      · -- reduce
        refine l_tabIn (j := 15) (tgt := 543) dL_law_32 hopr (by omega) (by omega) rfl (by decide) ?_
        obtain ⟨Q, hq, h9⟩ := o_reduce k x y hk hR 
        refine l_aload_n (npc := 544) dL_law_543 rfl rfl rfl ?_
        refine l_callXI (npc := 547) (n := 0) (as := []) (st := []) dL_law_544 rfl rfl rfl rfl ⟨⟨twl_595, twl_596, twl_597, twl_65, twl_598⟩, rfl, by decide, by decide, by decide +kernel⟩ (fun _ _ => rfl) rfl (Nat.le_of_ble_eq_true rfl) ⟨rfl, rfl⟩ ⟨by decide, by decide⟩ hq (fun r s1 e1 => ?_)
        obtain ⟨Q2, hq2, h9⟩ := h9 r s1 e1
        refine l_aload_n (npc := 548) dL_law_547 rfl rfl rfl ?_
        refine l_callMI (npc := 551) (n := 0) (as := []) (st := [iV r]) dL_law_548 rfl rfl rfl rfl ⟨⟨twl_1100, twl_1101, twl_1102, twl_75, twl_1103⟩, rfl, by decide, by decide, by decide +kernel⟩ (fun _ _ => rfl) rfl (Nat.le_of_ble_eq_true rfl) ⟨rfl, rfl⟩ ⟨by decide, by decide⟩ hq2 (fun r2 s2 e2 => ?_)
        obtain ⟨rfl, h9⟩ := h9 r2 s2 e2
        refine l_eqI (npc := 879) dL_law_551 (by decide) ?_
        exact T9 _ _ h9
      · -- makeRecurrent
        refine l_tabIn (j := 16) (tgt := 556) dL_law_32 hopr (by omega) (by omega) rfl (by decide) ?_
        obtain ⟨Q, hq, h9⟩ := o_makeRecurrent k x y hk hR 
        refine l_aload_n (npc := 557) dL_law_556 rfl rfl rfl ?_
        refine l_callXI (npc := 560) (n := 0) (as := []) (st := []) dL_law_557 rfl rfl rfl rfl ⟨⟨twl_628, twl_629, twl_630, twl_65, twl_631⟩, rfl, by decide, by decide, by decide +kernel⟩ (fun _ _ => rfl) rfl (Nat.le_of_ble_eq_true rfl) ⟨rfl, rfl⟩ ⟨by decide, by decide⟩ hq (fun r s1 e1 => ?_)
        obtain ⟨Q2, hq2, h9⟩ := h9 r s1 e1
        refine l_aload_n (npc := 561) dL_law_560 rfl rfl rfl ?_
        refine l_callMI (npc := 564) (n := 0) (as := []) (st := [iV r]) dL_law_561 rfl rfl rfl rfl ⟨⟨twl_1120, twl_1121, twl_1122, twl_75, twl_1123⟩, rfl, by decide, by decide, by decide +kernel⟩ (fun _ _ => rfl) rfl (Nat.le_of_ble_eq_true rfl) ⟨rfl, rfl⟩ ⟨by decide, by decide⟩ hq2 (fun r2 s2 e2 => ?_)
        obtain ⟨rfl, h9⟩ := h9 r2 s2 e2
        refine l_eqI (npc := 879) dL_law_564 (by decide) ?_
        exact T9 _ _ h9
      · -- kind
        refine l_tabIn (j := 17) (tgt := 569) dL_law_32 hopr (by omega) (by omega) rfl (by decide) ?_
        obtain ⟨Q, hq, h9⟩ := o_kind k x y hk hR 
        refine l_aload_n (npc := 570) dL_law_569 rfl rfl rfl ?_
        refine l_callXI (npc := 573) (n := 0) (as := []) (st := []) dL_law_570 rfl rfl rfl rfl ⟨⟨twl_645, twl_646, twl_647, twl_65, twl_648⟩, rfl, by decide, by decide, by decide +kernel⟩ (fun _ _ => rfl) rfl (Nat.le_of_ble_eq_true rfl) ⟨rfl, rfl⟩ ⟨by decide, by decide⟩ hq (fun r s1 e1 => ?_)
        obtain ⟨Q2, hq2, h9⟩ := h9 r s1 e1
        refine l_aload_n (npc := 574) dL_law_573 rfl rfl rfl ?_
        refine l_callMI (npc := 577) (n := 0) (as := []) (st := [iV r]) dL_law_574 rfl rfl rfl rfl ⟨⟨twl_1131, twl_1132, twl_1133, twl_75, twl_1134⟩, rfl, by decide, by decide, by decide +kernel⟩ (fun _ _ => rfl) rfl (Nat.le_of_ble_eq_true rfl) ⟨rfl, rfl⟩ ⟨by decide, by decide⟩ hq2 (fun r2 s2 e2 => ?_)
        obtain ⟨rfl, h9⟩ := h9 r2 s2 e2
        refine l_eqI (npc := 879) dL_law_577 (by decide) ?_
        exact T9 _ _ h9
      · -- burnt
        refine l_tabIn (j := 18) (tgt := 582) dL_law_32 hopr (by omega) (by omega) rfl (by decide) ?_
        obtain ⟨Q, hq, h9⟩ := o_burnt k x y (xs (Int.toNat (3 * (k : Int) + 1))).toInt hk hR (xs_r _)
        refine l_aload_n (npc := 583) dL_law_582 rfl rfl rfl ?_
        refine l_aload_n (npc := 584) dL_law_583 rfl rfl rfl ?_
        refine l_iload_n (npc := 585) dL_law_584 rfl rfl rfl ?_
        refine l_iconst (npc := 586) dL_law_585 rfl ?_
        refine l_iadd (npc := 587) dL_law_586 rfl ?_
        refine l_sld (npc := 588) dL_law_587 rfl (by omega) (by omega) ?_
        refine l_callXI (npc := 591) (n := 1) (as := [iV (xs (Int.toNat (3 * (k : Int) + 1))).toInt]) (st := []) dL_law_588 rfl rfl rfl rfl ⟨⟨twl_663, twl_664, twl_665, twl_65, twl_666⟩, rfl, by decide, by decide, by decide +kernel⟩ (fun _ _ => rfl) rfl (Nat.le_of_ble_eq_true rfl) ⟨rfl, rfl⟩ ⟨by decide, by decide⟩ hq (fun r s1 e1 => ?_)
        obtain ⟨Q2, hq2, h9⟩ := h9 r s1 e1
        refine l_aload_n (npc := 592) dL_law_591 rfl rfl rfl ?_
        refine l_aload_n (npc := 593) dL_law_592 rfl rfl rfl ?_
        refine l_iload_n (npc := 594) dL_law_593 rfl rfl rfl ?_
        refine l_iconst (npc := 595) dL_law_594 rfl ?_
        refine l_iadd (npc := 596) dL_law_595 rfl ?_
        refine l_sld (npc := 597) dL_law_596 rfl (by omega) (by omega) ?_
        refine l_callMI (npc := 600) (n := 1) (as := [iV (xs (Int.toNat (3 * (k : Int) + 1))).toInt]) (st := [iV r]) dL_law_597 rfl rfl rfl rfl ⟨⟨twl_1147, twl_1148, twl_1149, twl_75, twl_1150⟩, rfl, by decide, by decide, by decide +kernel⟩ (fun _ _ => rfl) rfl (Nat.le_of_ble_eq_true rfl) ⟨rfl, rfl⟩ ⟨by decide, by decide⟩ hq2 (fun r2 s2 e2 => ?_)
        obtain ⟨rfl, h9⟩ := h9 r2 s2 e2
        refine l_eqI (npc := 879) dL_law_600 (by decide) ?_
        exact T9 _ _ h9
      · -- undo
        refine l_tabIn (j := 19) (tgt := 605) dL_law_32 hopr (by omega) (by omega) rfl (by decide) ?_
        obtain ⟨Q, hq, h9⟩ := o_undo k x y hk hR 
        refine l_aload_n (npc := 606) dL_law_605 rfl rfl rfl ?_
        refine l_callXI (npc := 609) (n := 0) (as := []) (st := []) dL_law_606 rfl rfl rfl rfl ⟨⟨twl_668, twl_669, twl_670, twl_65, twl_671⟩, rfl, by decide, by decide, by decide +kernel⟩ (fun _ _ => rfl) rfl (Nat.le_of_ble_eq_true rfl) ⟨rfl, rfl⟩ ⟨by decide, by decide⟩ hq (fun r s1 e1 => ?_)
        obtain ⟨Q2, hq2, h9⟩ := h9 r s1 e1
        refine l_aload_n (npc := 610) dL_law_609 rfl rfl rfl ?_
        refine l_callMI (npc := 613) (n := 0) (as := []) (st := [iV r]) dL_law_610 rfl rfl rfl rfl ⟨⟨twl_1052, twl_1053, twl_1054, twl_75, twl_1055⟩, rfl, by decide, by decide, by decide +kernel⟩ (fun _ _ => rfl) rfl (Nat.le_of_ble_eq_true rfl) ⟨rfl, rfl⟩ ⟨by decide, by decide⟩ hq2 (fun r2 s2 e2 => ?_)
        obtain ⟨rfl, h9⟩ := h9 r2 s2 e2
        refine l_eqI (npc := 879) dL_law_613 (by decide) ?_
        exact T9 _ _ h9
      · -- keep
        refine l_tabIn (j := 20) (tgt := 618) dL_law_32 hopr (by omega) (by omega) rfl (by decide) ?_
        obtain ⟨Q, hq, h9⟩ := o_keep k x y (xs (Int.toNat (3 * (k : Int) + 1))).toInt hk hR (xs_r _)
        refine l_aload_n (npc := 619) dL_law_618 rfl rfl rfl ?_
        refine l_aload_n (npc := 620) dL_law_619 rfl rfl rfl ?_
        refine l_iload_n (npc := 621) dL_law_620 rfl rfl rfl ?_
        refine l_iconst (npc := 622) dL_law_621 rfl ?_
        refine l_iadd (npc := 623) dL_law_622 rfl ?_
        refine l_sld (npc := 624) dL_law_623 rfl (by omega) (by omega) ?_
        refine l_callXI (npc := 627) (n := 1) (as := [iV (xs (Int.toNat (3 * (k : Int) + 1))).toInt]) (st := []) dL_law_624 rfl rfl rfl rfl ⟨⟨twl_676, twl_677, twl_678, twl_65, twl_679⟩, rfl, by decide, by decide, by decide +kernel⟩ (fun _ _ => rfl) rfl (Nat.le_of_ble_eq_true rfl) ⟨rfl, rfl⟩ ⟨by decide, by decide⟩ hq (fun r s1 e1 => ?_)
        obtain ⟨Q2, hq2, h9⟩ := h9 r s1 e1
        refine l_aload_n (npc := 628) dL_law_627 rfl rfl rfl ?_
        refine l_aload_n (npc := 629) dL_law_628 rfl rfl rfl ?_
        refine l_iload_n (npc := 630) dL_law_629 rfl rfl rfl ?_
        refine l_iconst (npc := 631) dL_law_630 rfl ?_
        refine l_iadd (npc := 632) dL_law_631 rfl ?_
        refine l_sld (npc := 633) dL_law_632 rfl (by omega) (by omega) ?_
        refine l_callMI (npc := 636) (n := 1) (as := [iV (xs (Int.toNat (3 * (k : Int) + 1))).toInt]) (st := [iV r]) dL_law_633 rfl rfl rfl rfl ⟨⟨twl_1151, twl_1152, twl_1153, twl_75, twl_1154⟩, rfl, by decide, by decide, by decide +kernel⟩ (fun _ _ => rfl) rfl (Nat.le_of_ble_eq_true rfl) ⟨rfl, rfl⟩ ⟨by decide, by decide⟩ hq2 (fun r2 s2 e2 => ?_)
        obtain ⟨rfl, h9⟩ := h9 r2 s2 e2
        refine l_eqI (npc := 879) dL_law_636 (by decide) ?_
        exact T9 _ _ h9
      · -- load
        refine l_tabIn (j := 21) (tgt := 641) dL_law_32 hopr (by omega) (by omega) rfl (by decide) ?_
        obtain ⟨Q, hq, h9⟩ := o_load k x y (xs (Int.toNat (3 * (k : Int) + 1))).toInt hk hR (xs_r _)
        refine l_aload_n (npc := 642) dL_law_641 rfl rfl rfl ?_
        refine l_aload_n (npc := 643) dL_law_642 rfl rfl rfl ?_
        refine l_iload_n (npc := 644) dL_law_643 rfl rfl rfl ?_
        refine l_iconst (npc := 645) dL_law_644 rfl ?_
        refine l_iadd (npc := 646) dL_law_645 rfl ?_
        refine l_sld (npc := 647) dL_law_646 rfl (by omega) (by omega) ?_
        refine l_callXI (npc := 650) (n := 1) (as := [iV (xs (Int.toNat (3 * (k : Int) + 1))).toInt]) (st := []) dL_law_647 rfl rfl rfl rfl ⟨⟨twl_694, twl_695, twl_696, twl_65, twl_697⟩, rfl, by decide, by decide, by decide +kernel⟩ (fun _ _ => rfl) rfl (Nat.le_of_ble_eq_true rfl) ⟨rfl, rfl⟩ ⟨by decide, by decide⟩ hq (fun r s1 e1 => ?_)
        obtain ⟨Q2, hq2, h9⟩ := h9 r s1 e1
        refine l_aload_n (npc := 651) dL_law_650 rfl rfl rfl ?_
        refine l_aload_n (npc := 652) dL_law_651 rfl rfl rfl ?_
        refine l_iload_n (npc := 653) dL_law_652 rfl rfl rfl ?_
        refine l_iconst (npc := 654) dL_law_653 rfl ?_
        refine l_iadd (npc := 655) dL_law_654 rfl ?_
        refine l_sld (npc := 656) dL_law_655 rfl (by omega) (by omega) ?_
        refine l_callMI (npc := 659) (n := 1) (as := [iV (xs (Int.toNat (3 * (k : Int) + 1))).toInt]) (st := [iV r]) dL_law_656 rfl rfl rfl rfl ⟨⟨twl_1158, twl_1159, twl_1160, twl_75, twl_1161⟩, rfl, by decide, by decide, by decide +kernel⟩ (fun _ _ => rfl) rfl (Nat.le_of_ble_eq_true rfl) ⟨rfl, rfl⟩ ⟨by decide, by decide⟩ hq2 (fun r2 s2 e2 => ?_)
        obtain ⟨rfl, h9⟩ := h9 r2 s2 e2
        refine l_eqI (npc := 879) dL_law_659 (by decide) ?_
        exact T9 _ _ h9
      · -- add
        refine l_tabIn (j := 22) (tgt := 664) dL_law_32 hopr (by omega) (by omega) rfl (by decide) ?_
        obtain ⟨Q, hq, h9⟩ := o_add k x y (xs (Int.toNat (3 * (k : Int) + 1))).toInt hk hR (xs_r _)
        refine l_aload_n (npc := 665) dL_law_664 rfl rfl rfl ?_
        refine l_aload_n (npc := 666) dL_law_665 rfl rfl rfl ?_
        refine l_iload_n (npc := 667) dL_law_666 rfl rfl rfl ?_
        refine l_iconst (npc := 668) dL_law_667 rfl ?_
        refine l_iadd (npc := 669) dL_law_668 rfl ?_
        refine l_sld (npc := 670) dL_law_669 rfl (by omega) (by omega) ?_
        refine l_callXI (npc := 673) (n := 1) (as := [iV (xs (Int.toNat (3 * (k : Int) + 1))).toInt]) (st := []) dL_law_670 rfl rfl rfl rfl ⟨⟨twl_702, twl_703, twl_704, twl_65, twl_705⟩, rfl, by decide, by decide, by decide +kernel⟩ (fun _ _ => rfl) rfl (Nat.le_of_ble_eq_true rfl) ⟨rfl, rfl⟩ ⟨by decide, by decide⟩ hq (fun r s1 e1 => ?_)
        obtain ⟨Q2, hq2, h9⟩ := h9 r s1 e1
        refine l_aload_n (npc := 674) dL_law_673 rfl rfl rfl ?_
        refine l_aload_n (npc := 675) dL_law_674 rfl rfl rfl ?_
        refine l_iload_n (npc := 676) dL_law_675 rfl rfl rfl ?_
        refine l_iconst (npc := 677) dL_law_676 rfl ?_
        refine l_iadd (npc := 678) dL_law_677 rfl ?_
        refine l_sld (npc := 679) dL_law_678 rfl (by omega) (by omega) ?_
        refine l_callMI (npc := 682) (n := 1) (as := [iV (xs (Int.toNat (3 * (k : Int) + 1))).toInt]) (st := [iV r]) dL_law_679 rfl rfl rfl rfl ⟨⟨twl_1162, twl_1163, twl_1164, twl_75, twl_1165⟩, rfl, by decide, by decide, by decide +kernel⟩ (fun _ _ => rfl) rfl (Nat.le_of_ble_eq_true rfl) ⟨rfl, rfl⟩ ⟨by decide, by decide⟩ hq2 (fun r2 s2 e2 => ?_)
        obtain ⟨rfl, h9⟩ := h9 r2 s2 e2
        refine l_eqI (npc := 879) dL_law_682 (by decide) ?_
        exact T9 _ _ h9
      · -- isSameClass
        refine l_tabIn (j := 23) (tgt := 687) dL_law_32 hopr (by omega) (by omega) rfl (by decide) ?_
        obtain ⟨Q, hq, h9⟩ := o_isSameClass k x y (xs (Int.toNat (3 * (k : Int) + 1))).toInt hk hR (xs_r _)
        refine l_aload_n (npc := 688) dL_law_687 rfl rfl rfl ?_
        refine l_aload_n (npc := 689) dL_law_688 rfl rfl rfl ?_
        refine l_iload_n (npc := 690) dL_law_689 rfl rfl rfl ?_
        refine l_iconst (npc := 691) dL_law_690 rfl ?_
        refine l_iadd (npc := 692) dL_law_691 rfl ?_
        refine l_sld (npc := 693) dL_law_692 rfl (by omega) (by omega) ?_
        refine l_callXI (npc := 696) (n := 1) (as := [iV (xs (Int.toNat (3 * (k : Int) + 1))).toInt]) (st := []) dL_law_693 rfl rfl rfl rfl ⟨⟨twl_706, twl_707, twl_708, twl_65, twl_709⟩, rfl, by decide, by decide, by decide +kernel⟩ (fun _ _ => rfl) rfl (Nat.le_of_ble_eq_true rfl) ⟨rfl, rfl⟩ ⟨by decide, by decide⟩ hq (fun r s1 e1 => ?_)
        obtain ⟨Q2, hq2, h9⟩ := h9 r s1 e1
        refine l_aload_n (npc := 697) dL_law_696 rfl rfl rfl ?_
        refine l_aload_n (npc := 698) dL_law_697 rfl rfl rfl ?_
        refine l_iload_n (npc := 699) dL_law_698 rfl rfl rfl ?_
        refine l_iconst (npc := 700) dL_law_699 rfl ?_
        refine l_iadd (npc := 701) dL_law_700 rfl ?_
        refine l_sld (npc := 702) dL_law_701 rfl (by omega) (by omega) ?_
        refine l_callMI (npc := 705) (n := 1) (as := [iV (xs (Int.toNat (3 * (k : Int) + 1))).toInt]) (st := [iV r]) dL_law_702 rfl rfl rfl rfl ⟨⟨twl_1166, twl_1167, twl_1168, twl_75, twl_1169⟩, rfl, by decide, by decide, by decide +kernel⟩ (fun _ _ => rfl) rfl (Nat.le_of_ble_eq_true rfl) ⟨rfl, rfl⟩ ⟨by decide, by decide⟩ hq2 (fun r2 s2 e2 => ?_)
        obtain ⟨rfl, h9⟩ := h9 r2 s2 e2
        refine l_eqI (npc := 879) dL_law_705 (by decide) ?_
        exact T9 _ _ h9
      · -- treeCount
        refine l_tabIn (j := 24) (tgt := 710) dL_law_32 hopr (by omega) (by omega) rfl (by decide) ?_
        obtain ⟨Q, hq, h9⟩ := o_treeCount k x y hk hR 
        refine l_aload_n (npc := 711) dL_law_710 rfl rfl rfl ?_
        refine l_callXJ (npc := 714) (n := 0) (as := []) (st := []) dL_law_711 rfl rfl rfl rfl ⟨⟨twl_710, twl_711, twl_712, twl_65, twl_713⟩, rfl, by decide, by decide, by decide +kernel⟩ (fun _ _ => rfl) rfl (Nat.le_of_ble_eq_true rfl) ⟨rfl, rfl⟩ ⟨by decide, by decide⟩ hq (fun r s1 e1 => ?_)
        obtain ⟨Q2, hq2, h9⟩ := h9 r s1 e1
        refine l_aload_n (npc := 715) dL_law_714 rfl rfl rfl ?_
        refine l_callMJ (npc := 718) (n := 0) (as := []) (st := [jV r]) dL_law_715 rfl rfl rfl rfl ⟨⟨twl_1170, twl_1171, twl_1172, twl_75, twl_1173⟩, rfl, by decide, by decide, by decide +kernel⟩ (fun _ _ => rfl) rfl (Nat.le_of_ble_eq_true rfl) ⟨rfl, rfl⟩ ⟨by decide, by decide⟩ hq2 (fun r2 s2 e2 => ?_)
        obtain ⟨rfl, h9⟩ := h9 r2 s2 e2
        refine l_eqJ (npc := 879) (pc2 := 719) dL_law_718 rfl dL_law_719 (by decide) ?_
        exact T9 _ _ h9
      · -- identity
        refine l_tabIn (j := 25) (tgt := 724) dL_law_32 hopr (by omega) (by omega) rfl (by decide) ?_
        obtain ⟨Q, hq, h9⟩ := o_identity k x y (xs (Int.toNat (3 * (k : Int) + 1))).toInt hk hR (xs_r _)
        refine l_aload_n (npc := 725) dL_law_724 rfl rfl rfl ?_
        refine l_aload_n (npc := 726) dL_law_725 rfl rfl rfl ?_
        refine l_iload_n (npc := 727) dL_law_726 rfl rfl rfl ?_
        refine l_iconst (npc := 728) dL_law_727 rfl ?_
        refine l_iadd (npc := 729) dL_law_728 rfl ?_
        refine l_sld (npc := 730) dL_law_729 rfl (by omega) (by omega) ?_
        refine l_callXI (npc := 733) (n := 1) (as := [iV (xs (Int.toNat (3 * (k : Int) + 1))).toInt]) (st := []) dL_law_730 rfl rfl rfl rfl ⟨⟨twl_740, twl_741, twl_742, twl_65, twl_743⟩, rfl, by decide, by decide, by decide +kernel⟩ (fun _ _ => rfl) rfl (Nat.le_of_ble_eq_true rfl) ⟨rfl, rfl⟩ ⟨by decide, by decide⟩ hq (fun r s1 e1 => ?_)
        obtain ⟨Q2, hq2, h9⟩ := h9 r s1 e1
        refine l_aload_n (npc := 734) dL_law_733 rfl rfl rfl ?_
        refine l_aload_n (npc := 735) dL_law_734 rfl rfl rfl ?_
        refine l_iload_n (npc := 736) dL_law_735 rfl rfl rfl ?_
        refine l_iconst (npc := 737) dL_law_736 rfl ?_
        refine l_iadd (npc := 738) dL_law_737 rfl ?_
        refine l_sld (npc := 739) dL_law_738 rfl (by omega) (by omega) ?_
        refine l_callMI (npc := 742) (n := 1) (as := [iV (xs (Int.toNat (3 * (k : Int) + 1))).toInt]) (st := [iV r]) dL_law_739 rfl rfl rfl rfl ⟨⟨twl_1210, twl_1211, twl_1212, twl_75, twl_1213⟩, rfl, by decide, by decide, by decide +kernel⟩ (fun _ _ => rfl) rfl (Nat.le_of_ble_eq_true rfl) ⟨rfl, rfl⟩ ⟨by decide, by decide⟩ hq2 (fun r2 s2 e2 => ?_)
        obtain ⟨rfl, h9⟩ := h9 r2 s2 e2
        refine l_eqI (npc := 879) dL_law_742 (by decide) ?_
        exact T9 _ _ h9
      · -- order
        refine l_tabIn (j := 26) (tgt := 747) dL_law_32 hopr (by omega) (by omega) rfl (by decide) ?_
        obtain ⟨Q, hq, h9⟩ := o_order k x y hk hR 
        refine l_aload_n (npc := 748) dL_law_747 rfl rfl rfl ?_
        refine l_callXI (npc := 751) (n := 0) (as := []) (st := []) dL_law_748 rfl rfl rfl rfl ⟨⟨twl_744, twl_745, twl_746, twl_65, twl_747⟩, rfl, by decide, by decide, by decide +kernel⟩ (fun _ _ => rfl) rfl (Nat.le_of_ble_eq_true rfl) ⟨rfl, rfl⟩ ⟨by decide, by decide⟩ hq (fun r s1 e1 => ?_)
        obtain ⟨Q2, hq2, h9⟩ := h9 r s1 e1
        refine l_aload_n (npc := 752) dL_law_751 rfl rfl rfl ?_
        refine l_callMI (npc := 755) (n := 0) (as := []) (st := [iV r]) dL_law_752 rfl rfl rfl rfl ⟨⟨twl_1214, twl_1215, twl_1216, twl_75, twl_1217⟩, rfl, by decide, by decide, by decide +kernel⟩ (fun _ _ => rfl) rfl (Nat.le_of_ble_eq_true rfl) ⟨rfl, rfl⟩ ⟨by decide, by decide⟩ hq2 (fun r2 s2 e2 => ?_)
        obtain ⟨rfl, h9⟩ := h9 r2 s2 e2
        refine l_eqI (npc := 879) dL_law_755 (by decide) ?_
        exact T9 _ _ h9
      · -- factor
        refine l_tabIn (j := 27) (tgt := 760) dL_law_32 hopr (by omega) (by omega) rfl (by decide) ?_
        obtain ⟨Q, hq, h9⟩ := o_factor k x y (xs (Int.toNat (3 * (k : Int) + 1))).toInt hk hR (xs_r _)
        refine l_aload_n (npc := 761) dL_law_760 rfl rfl rfl ?_
        refine l_aload_n (npc := 762) dL_law_761 rfl rfl rfl ?_
        refine l_iload_n (npc := 763) dL_law_762 rfl rfl rfl ?_
        refine l_iconst (npc := 764) dL_law_763 rfl ?_
        refine l_iadd (npc := 765) dL_law_764 rfl ?_
        refine l_sld (npc := 766) dL_law_765 rfl (by omega) (by omega) ?_
        refine l_callXJ (npc := 769) (n := 1) (as := [iV (xs (Int.toNat (3 * (k : Int) + 1))).toInt]) (st := []) dL_law_766 rfl rfl rfl rfl ⟨⟨twl_766, twl_767, twl_768, twl_65, twl_769⟩, rfl, by decide, by decide, by decide +kernel⟩ (fun _ _ => rfl) rfl (Nat.le_of_ble_eq_true rfl) ⟨rfl, rfl⟩ ⟨by decide, by decide⟩ hq (fun r s1 e1 => ?_)
        obtain ⟨Q2, hq2, h9⟩ := h9 r s1 e1
        refine l_aload_n (npc := 770) dL_law_769 rfl rfl rfl ?_
        refine l_aload_n (npc := 771) dL_law_770 rfl rfl rfl ?_
        refine l_iload_n (npc := 772) dL_law_771 rfl rfl rfl ?_
        refine l_iconst (npc := 773) dL_law_772 rfl ?_
        refine l_iadd (npc := 774) dL_law_773 rfl ?_
        refine l_sld (npc := 775) dL_law_774 rfl (by omega) (by omega) ?_
        refine l_callMJ (npc := 778) (n := 1) (as := [iV (xs (Int.toNat (3 * (k : Int) + 1))).toInt]) (st := [jV r]) dL_law_775 rfl rfl rfl rfl ⟨⟨twl_1202, twl_1203, twl_1204, twl_75, twl_1205⟩, rfl, by decide, by decide, by decide +kernel⟩ (fun _ _ => rfl) rfl (Nat.le_of_ble_eq_true rfl) ⟨rfl, rfl⟩ ⟨by decide, by decide⟩ hq2 (fun r2 s2 e2 => ?_)
        obtain ⟨rfl, h9⟩ := h9 r2 s2 e2
        refine l_eqJ (npc := 879) (pc2 := 779) dL_law_778 rfl dL_law_779 (by decide) ?_
        exact T9 _ _ h9
      · -- level
        refine l_tabIn (j := 28) (tgt := 784) dL_law_32 hopr (by omega) (by omega) rfl (by decide) ?_
        obtain ⟨Q, hq, h9⟩ := o_level k x y hk hR 
        refine l_aload_n (npc := 785) dL_law_784 rfl rfl rfl ?_
        refine l_callXI (npc := 788) (n := 0) (as := []) (st := []) dL_law_785 rfl rfl rfl rfl ⟨⟨twl_814, twl_815, twl_816, twl_65, twl_817⟩, rfl, by decide, by decide, by decide +kernel⟩ (fun _ _ => rfl) rfl (Nat.le_of_ble_eq_true rfl) ⟨rfl, rfl⟩ ⟨by decide, by decide⟩ hq (fun r s1 e1 => ?_)
        obtain ⟨Q2, hq2, h9⟩ := h9 r s1 e1
        refine l_aload_n (npc := 789) dL_law_788 rfl rfl rfl ?_
        refine l_callMI (npc := 792) (n := 0) (as := []) (st := [iV r]) dL_law_789 rfl rfl rfl rfl ⟨⟨twl_1221, twl_1222, twl_1223, twl_75, twl_1224⟩, rfl, by decide, by decide, by decide +kernel⟩ (fun _ _ => rfl) rfl (Nat.le_of_ble_eq_true rfl) ⟨rfl, rfl⟩ ⟨by decide, by decide⟩ hq2 (fun r2 s2 e2 => ?_)
        obtain ⟨rfl, h9⟩ := h9 r2 s2 e2
        refine l_eqI (npc := 879) dL_law_792 (by decide) ?_
        exact T9 _ _ h9
      · -- levelCount
        refine l_tabIn (j := 29) (tgt := 797) dL_law_32 hopr (by omega) (by omega) rfl (by decide) ?_
        obtain ⟨Q, hq, h9⟩ := o_levelCount k x y (xs (Int.toNat (3 * (k : Int) + 1))).toInt hk hR (xs_r _)
        refine l_aload_n (npc := 798) dL_law_797 rfl rfl rfl ?_
        refine l_aload_n (npc := 799) dL_law_798 rfl rfl rfl ?_
        refine l_iload_n (npc := 800) dL_law_799 rfl rfl rfl ?_
        refine l_iconst (npc := 801) dL_law_800 rfl ?_
        refine l_iadd (npc := 802) dL_law_801 rfl ?_
        refine l_sld (npc := 803) dL_law_802 rfl (by omega) (by omega) ?_
        refine l_callXI (npc := 806) (n := 1) (as := [iV (xs (Int.toNat (3 * (k : Int) + 1))).toInt]) (st := []) dL_law_803 rfl rfl rfl rfl ⟨⟨twl_818, twl_819, twl_820, twl_65, twl_821⟩, rfl, by decide, by decide, by decide +kernel⟩ (fun _ _ => rfl) rfl (Nat.le_of_ble_eq_true rfl) ⟨rfl, rfl⟩ ⟨by decide, by decide⟩ hq (fun r s1 e1 => ?_)
        obtain ⟨Q2, hq2, h9⟩ := h9 r s1 e1
        refine l_aload_n (npc := 807) dL_law_806 rfl rfl rfl ?_
        refine l_aload_n (npc := 808) dL_law_807 rfl rfl rfl ?_
        refine l_iload_n (npc := 809) dL_law_808 rfl rfl rfl ?_
        refine l_iconst (npc := 810) dL_law_809 rfl ?_
        refine l_iadd (npc := 811) dL_law_810 rfl ?_
        refine l_sld (npc := 812) dL_law_811 rfl (by omega) (by omega) ?_
        refine l_callMI (npc := 815) (n := 1) (as := [iV (xs (Int.toNat (3 * (k : Int) + 1))).toInt]) (st := [iV r]) dL_law_812 rfl rfl rfl rfl ⟨⟨twl_1225, twl_1226, twl_1227, twl_75, twl_1228⟩, rfl, by decide, by decide, by decide +kernel⟩ (fun _ _ => rfl) rfl (Nat.le_of_ble_eq_true rfl) ⟨rfl, rfl⟩ ⟨by decide, by decide⟩ hq2 (fun r2 s2 e2 => ?_)
        obtain ⟨rfl, h9⟩ := h9 r2 s2 e2
        refine l_eqI (npc := 879) dL_law_815 (by decide) ?_
        exact T9 _ _ h9
      · -- tree
        refine l_tabIn (j := 30) (tgt := 820) dL_law_32 hopr (by omega) (by omega) rfl (by decide) ?_
        obtain ⟨Q, hq, h9⟩ := o_tree k x y hk hR 
        refine l_aload_n (npc := 821) dL_law_820 rfl rfl rfl ?_
        refine l_callXI (npc := 824) (n := 0) (as := []) (st := []) dL_law_821 rfl rfl rfl rfl ⟨⟨twl_841, twl_842, twl_843, twl_65, twl_844⟩, rfl, by decide, by decide, by decide +kernel⟩ (fun _ _ => rfl) rfl (Nat.le_of_ble_eq_true rfl) ⟨rfl, rfl⟩ ⟨by decide, by decide⟩ hq (fun r s1 e1 => ?_)
        obtain ⟨Q2, hq2, h9⟩ := h9 r s1 e1
        refine l_aload_n (npc := 825) dL_law_824 rfl rfl rfl ?_
        refine l_callMI (npc := 828) (n := 0) (as := []) (st := [iV r]) dL_law_825 rfl rfl rfl rfl ⟨⟨twl_1233, twl_1234, twl_1235, twl_75, twl_1236⟩, rfl, by decide, by decide, by decide +kernel⟩ (fun _ _ => rfl) rfl (Nat.le_of_ble_eq_true rfl) ⟨rfl, rfl⟩ ⟨by decide, by decide⟩ hq2 (fun r2 s2 e2 => ?_)
        obtain ⟨rfl, h9⟩ := h9 r2 s2 e2
        refine l_eqI (npc := 879) dL_law_828 (by decide) ?_
        exact T9 _ _ h9
      · -- takeTree
        refine l_tabIn (j := 31) (tgt := 833) dL_law_32 hopr (by omega) (by omega) rfl (by decide) ?_
        obtain ⟨Q, hq, h9⟩ := o_takeTree k x y (xs (Int.toNat (3 * (k : Int) + 1))).toInt hk hR (xs_r _)
        refine l_aload_n (npc := 834) dL_law_833 rfl rfl rfl ?_
        refine l_aload_n (npc := 835) dL_law_834 rfl rfl rfl ?_
        refine l_iload_n (npc := 836) dL_law_835 rfl rfl rfl ?_
        refine l_iconst (npc := 837) dL_law_836 rfl ?_
        refine l_iadd (npc := 838) dL_law_837 rfl ?_
        refine l_sld (npc := 839) dL_law_838 rfl (by omega) (by omega) ?_
        refine l_callXI (npc := 842) (n := 1) (as := [iV (xs (Int.toNat (3 * (k : Int) + 1))).toInt]) (st := []) dL_law_839 rfl rfl rfl rfl ⟨⟨twl_863, twl_864, twl_865, twl_65, twl_866⟩, rfl, by decide, by decide, by decide +kernel⟩ (fun _ _ => rfl) rfl (Nat.le_of_ble_eq_true rfl) ⟨rfl, rfl⟩ ⟨by decide, by decide⟩ hq (fun r s1 e1 => ?_)
        obtain ⟨Q2, hq2, h9⟩ := h9 r s1 e1
        refine l_aload_n (npc := 843) dL_law_842 rfl rfl rfl ?_
        refine l_aload_n (npc := 844) dL_law_843 rfl rfl rfl ?_
        refine l_iload_n (npc := 845) dL_law_844 rfl rfl rfl ?_
        refine l_iconst (npc := 846) dL_law_845 rfl ?_
        refine l_iadd (npc := 847) dL_law_846 rfl ?_
        refine l_sld (npc := 848) dL_law_847 rfl (by omega) (by omega) ?_
        refine l_callMI (npc := 851) (n := 1) (as := [iV (xs (Int.toNat (3 * (k : Int) + 1))).toInt]) (st := [iV r]) dL_law_848 rfl rfl rfl rfl ⟨⟨twl_1241, twl_1242, twl_1243, twl_75, twl_1244⟩, rfl, by decide, by decide, by decide +kernel⟩ (fun _ _ => rfl) rfl (Nat.le_of_ble_eq_true rfl) ⟨rfl, rfl⟩ ⟨by decide, by decide⟩ hq2 (fun r2 s2 e2 => ?_)
        obtain ⟨rfl, h9⟩ := h9 r2 s2 e2
        refine l_eqI (npc := 879) dL_law_851 (by decide) ?_
        exact T9 _ _ h9
      · -- treeAt
        refine l_tabIn (j := 32) (tgt := 856) dL_law_32 hopr (by omega) (by omega) rfl (by decide) ?_
        obtain ⟨Q, hq, h9⟩ := o_treeAt k x y (xs (Int.toNat (3 * (k : Int) + 1))).toInt hk hR (xs_r _)
        refine l_aload_n (npc := 857) dL_law_856 rfl rfl rfl ?_
        refine l_aload_n (npc := 858) dL_law_857 rfl rfl rfl ?_
        refine l_iload_n (npc := 859) dL_law_858 rfl rfl rfl ?_
        refine l_iconst (npc := 860) dL_law_859 rfl ?_
        refine l_iadd (npc := 861) dL_law_860 rfl ?_
        refine l_sld (npc := 862) dL_law_861 rfl (by omega) (by omega) ?_
        refine l_callXI (npc := 865) (n := 1) (as := [iV (xs (Int.toNat (3 * (k : Int) + 1))).toInt]) (st := []) dL_law_862 rfl rfl rfl rfl ⟨⟨twl_881, twl_882, twl_883, twl_65, twl_884⟩, rfl, by decide, by decide, by decide +kernel⟩ (fun _ _ => rfl) rfl (Nat.le_of_ble_eq_true rfl) ⟨rfl, rfl⟩ ⟨by decide, by decide⟩ hq (fun r s1 e1 => ?_)
        obtain ⟨Q2, hq2, h9⟩ := h9 r s1 e1
        refine l_aload_n (npc := 866) dL_law_865 rfl rfl rfl ?_
        refine l_aload_n (npc := 867) dL_law_866 rfl rfl rfl ?_
        refine l_iload_n (npc := 868) dL_law_867 rfl rfl rfl ?_
        refine l_iconst (npc := 869) dL_law_868 rfl ?_
        refine l_iadd (npc := 870) dL_law_869 rfl ?_
        refine l_sld (npc := 871) dL_law_870 rfl (by omega) (by omega) ?_
        refine l_callMI (npc := 874) (n := 1) (as := [iV (xs (Int.toNat (3 * (k : Int) + 1))).toInt]) (st := [iV r]) dL_law_871 rfl rfl rfl rfl ⟨⟨twl_1252, twl_1253, twl_1254, twl_75, twl_1255⟩, rfl, by decide, by decide, by decide +kernel⟩ (fun _ _ => rfl) rfl (Nat.le_of_ble_eq_true rfl) ⟨rfl, rfl⟩ ⟨by decide, by decide⟩ hq2 (fun r2 s2 e2 => ?_)
        obtain ⟨rfl, h9⟩ := h9 r2 s2 e2
        refine l_eqI (npc := 879) dL_law_874 (by decide) ?_
        exact T9 _ _ h9
      · refine l_tabOut (tgt := 879) dL_law_32 hopr c2 (by decide) ?_
        exact T9 _ _ (hmono k x y hk hR)
