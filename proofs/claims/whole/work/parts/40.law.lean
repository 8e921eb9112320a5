/-! part 40: the law: its words, its cases, its loop -/
set_option maxRecDepth 20000 in
theorem lA_50 : (Cond.initialized RX9 : Cond) ∈ wsA := wA_of 50 (by decide +kernel) rfl
set_option maxRecDepth 20000 in
theorem lA_59 : (Cond.initialized RX10 : Cond) ∈ wsA := wA_of 59 (by decide +kernel) rfl
set_option maxRecDepth 20000 in
theorem lA_262 : (Cond.methodLink RL 13 yX9_feed : Cond) ∈ wsA := wA_of 262 (by decide +kernel) rfl
set_option maxRecDepth 20000 in
theorem lA_263 : (Cond.instanceMethod yX9_feed : Cond) ∈ wsA := wA_of 263 (by decide +kernel) rfl
set_option maxRecDepth 20000 in
theorem lA_264 : (Cond.selects RX9 yX9_feed yX9_feed : Cond) ∈ wsA := wA_of 264 (by decide +kernel) rfl
set_option maxRecDepth 20000 in
theorem lA_265 : (Cond.code yX9_feed cX9_feed 2 (some .int) : Cond) ∈ wsA := wA_of 265 (by decide +kernel) rfl
set_option maxRecDepth 20000 in
theorem lA_274 : (Cond.methodLink RL 18 yX9_string : Cond) ∈ wsA := wA_of 274 (by decide +kernel) rfl
set_option maxRecDepth 20000 in
theorem lA_275 : (Cond.instanceMethod yX9_string : Cond) ∈ wsA := wA_of 275 (by decide +kernel) rfl
set_option maxRecDepth 20000 in
theorem lA_276 : (Cond.selects RX9 yX9_string yX9_string : Cond) ∈ wsA := wA_of 276 (by decide +kernel) rfl
set_option maxRecDepth 20000 in
theorem lA_277 : (Cond.code yX9_string cX9_string 4 (some .int) : Cond) ∈ wsA := wA_of 277 (by decide +kernel) rfl
set_option maxRecDepth 20000 in
theorem lA_350 : (Cond.methodLink RL 23 yX9_lamp : Cond) ∈ wsA := wA_of 350 (by decide +kernel) rfl
set_option maxRecDepth 20000 in
theorem lA_351 : (Cond.instanceMethod yX9_lamp : Cond) ∈ wsA := wA_of 351 (by decide +kernel) rfl
set_option maxRecDepth 20000 in
theorem lA_352 : (Cond.selects RX9 yX9_lamp yX9_lamp : Cond) ∈ wsA := wA_of 352 (by decide +kernel) rfl
set_option maxRecDepth 20000 in
theorem lA_353 : (Cond.code yX9_lamp cX9_lamp 4 (some .int) : Cond) ∈ wsA := wA_of 353 (by decide +kernel) rfl
set_option maxRecDepth 20000 in
theorem lA_408 : (Cond.methodLink RL 28 yX9_set : Cond) ∈ wsA := wA_of 408 (by decide +kernel) rfl
set_option maxRecDepth 20000 in
theorem lA_409 : (Cond.instanceMethod yX9_set : Cond) ∈ wsA := wA_of 409 (by decide +kernel) rfl
set_option maxRecDepth 20000 in
theorem lA_410 : (Cond.selects RX9 yX9_set yX9_set : Cond) ∈ wsA := wA_of 410 (by decide +kernel) rfl
set_option maxRecDepth 20000 in
theorem lA_411 : (Cond.code yX9_set cX9_set 4 (some .int) : Cond) ∈ wsA := wA_of 411 (by decide +kernel) rfl
set_option maxRecDepth 20000 in
theorem lA_414 : (Cond.methodLink RL 32 yX9_flow : Cond) ∈ wsA := wA_of 414 (by decide +kernel) rfl
set_option maxRecDepth 20000 in
theorem lA_415 : (Cond.instanceMethod yX9_flow : Cond) ∈ wsA := wA_of 415 (by decide +kernel) rfl
set_option maxRecDepth 20000 in
theorem lA_416 : (Cond.selects RX9 yX9_flow yX9_flow : Cond) ∈ wsA := wA_of 416 (by decide +kernel) rfl
set_option maxRecDepth 20000 in
theorem lA_417 : (Cond.code yX9_flow cX9_flow 1 (some .int) : Cond) ∈ wsA := wA_of 417 (by decide +kernel) rfl
set_option maxRecDepth 20000 in
theorem lA_418 : (Cond.methodLink RL 36 yX9_hour : Cond) ∈ wsA := wA_of 418 (by decide +kernel) rfl
set_option maxRecDepth 20000 in
theorem lA_419 : (Cond.instanceMethod yX9_hour : Cond) ∈ wsA := wA_of 419 (by decide +kernel) rfl
set_option maxRecDepth 20000 in
theorem lA_420 : (Cond.selects RX9 yX9_hour yX9_hour : Cond) ∈ wsA := wA_of 420 (by decide +kernel) rfl
set_option maxRecDepth 20000 in
theorem lA_421 : (Cond.code yX9_hour cX9_hour 1 (some .int) : Cond) ∈ wsA := wA_of 421 (by decide +kernel) rfl
set_option maxRecDepth 20000 in
theorem lA_445 : (Cond.methodLink RL 40 yX9_swap : Cond) ∈ wsA := wA_of 445 (by decide +kernel) rfl
set_option maxRecDepth 20000 in
theorem lA_446 : (Cond.instanceMethod yX9_swap : Cond) ∈ wsA := wA_of 446 (by decide +kernel) rfl
set_option maxRecDepth 20000 in
theorem lA_447 : (Cond.selects RX9 yX9_swap yX9_swap : Cond) ∈ wsA := wA_of 447 (by decide +kernel) rfl
set_option maxRecDepth 20000 in
theorem lA_448 : (Cond.code yX9_swap cX9_swap 2 (some .int) : Cond) ∈ wsA := wA_of 448 (by decide +kernel) rfl
set_option maxRecDepth 20000 in
theorem lA_454 : (Cond.methodLink RL 44 yX9_meter : Cond) ∈ wsA := wA_of 454 (by decide +kernel) rfl
set_option maxRecDepth 20000 in
theorem lA_455 : (Cond.instanceMethod yX9_meter : Cond) ∈ wsA := wA_of 455 (by decide +kernel) rfl
set_option maxRecDepth 20000 in
theorem lA_456 : (Cond.selects RX9 yX9_meter yX9_meter : Cond) ∈ wsA := wA_of 456 (by decide +kernel) rfl
set_option maxRecDepth 20000 in
theorem lA_457 : (Cond.code yX9_meter cX9_meter 3 (some .int) : Cond) ∈ wsA := wA_of 457 (by decide +kernel) rfl
set_option maxRecDepth 20000 in
theorem lA_463 : (Cond.methodLink RL 48 yX9_finder : Cond) ∈ wsA := wA_of 463 (by decide +kernel) rfl
set_option maxRecDepth 20000 in
theorem lA_464 : (Cond.instanceMethod yX9_finder : Cond) ∈ wsA := wA_of 464 (by decide +kernel) rfl
set_option maxRecDepth 20000 in
theorem lA_465 : (Cond.selects RX9 yX9_finder yX9_finder : Cond) ∈ wsA := wA_of 465 (by decide +kernel) rfl
set_option maxRecDepth 20000 in
theorem lA_466 : (Cond.code yX9_finder cX9_finder 2 (some .int) : Cond) ∈ wsA := wA_of 466 (by decide +kernel) rfl
set_option maxRecDepth 20000 in
theorem lA_467 : (Cond.methodLink RL 52 yX9_touch : Cond) ∈ wsA := wA_of 467 (by decide +kernel) rfl
set_option maxRecDepth 20000 in
theorem lA_468 : (Cond.instanceMethod yX9_touch : Cond) ∈ wsA := wA_of 468 (by decide +kernel) rfl
set_option maxRecDepth 20000 in
theorem lA_469 : (Cond.selects RX9 yX9_touch yX9_touch : Cond) ∈ wsA := wA_of 469 (by decide +kernel) rfl
set_option maxRecDepth 20000 in
theorem lA_470 : (Cond.code yX9_touch cX9_touch 2 (some .int) : Cond) ∈ wsA := wA_of 470 (by decide +kernel) rfl
set_option maxRecDepth 20000 in
theorem lA_479 : (Cond.methodLink RL 56 yX9_find : Cond) ∈ wsA := wA_of 479 (by decide +kernel) rfl
set_option maxRecDepth 20000 in
theorem lA_480 : (Cond.instanceMethod yX9_find : Cond) ∈ wsA := wA_of 480 (by decide +kernel) rfl
set_option maxRecDepth 20000 in
theorem lA_481 : (Cond.selects RX9 yX9_find yX9_find : Cond) ∈ wsA := wA_of 481 (by decide +kernel) rfl
set_option maxRecDepth 20000 in
theorem lA_482 : (Cond.code yX9_find cX9_find 4 (some .int) : Cond) ∈ wsA := wA_of 482 (by decide +kernel) rfl
set_option maxRecDepth 20000 in
theorem lA_508 : (Cond.methodLink RL 61 yX9_look : Cond) ∈ wsA := wA_of 508 (by decide +kernel) rfl
set_option maxRecDepth 20000 in
theorem lA_509 : (Cond.instanceMethod yX9_look : Cond) ∈ wsA := wA_of 509 (by decide +kernel) rfl
set_option maxRecDepth 20000 in
theorem lA_510 : (Cond.selects RX9 yX9_look yX9_look : Cond) ∈ wsA := wA_of 510 (by decide +kernel) rfl
set_option maxRecDepth 20000 in
theorem lA_511 : (Cond.code yX9_look cX9_look 4 (some .int) : Cond) ∈ wsA := wA_of 511 (by decide +kernel) rfl
set_option maxRecDepth 20000 in
theorem lA_517 : (Cond.methodLink RL 65 yX9_order : Cond) ∈ wsA := wA_of 517 (by decide +kernel) rfl
set_option maxRecDepth 20000 in
theorem lA_518 : (Cond.instanceMethod yX9_order : Cond) ∈ wsA := wA_of 518 (by decide +kernel) rfl
set_option maxRecDepth 20000 in
theorem lA_519 : (Cond.selects RX9 yX9_order yX9_order : Cond) ∈ wsA := wA_of 519 (by decide +kernel) rfl
set_option maxRecDepth 20000 in
theorem lA_520 : (Cond.code yX9_order cX9_order 2 (some .int) : Cond) ∈ wsA := wA_of 520 (by decide +kernel) rfl
set_option maxRecDepth 20000 in
theorem lA_529 : (Cond.methodLink RL 69 yX9_orderSum : Cond) ∈ wsA := wA_of 529 (by decide +kernel) rfl
set_option maxRecDepth 20000 in
theorem lA_530 : (Cond.instanceMethod yX9_orderSum : Cond) ∈ wsA := wA_of 530 (by decide +kernel) rfl
set_option maxRecDepth 20000 in
theorem lA_531 : (Cond.selects RX9 yX9_orderSum yX9_orderSum : Cond) ∈ wsA := wA_of 531 (by decide +kernel) rfl
set_option maxRecDepth 20000 in
theorem lA_532 : (Cond.code yX9_orderSum cX9_orderSum 1 (some .int) : Cond) ∈ wsA := wA_of 532 (by decide +kernel) rfl
set_option maxRecDepth 20000 in
theorem lA_537 : (Cond.methodLink RL 73 yX9_told : Cond) ∈ wsA := wA_of 537 (by decide +kernel) rfl
set_option maxRecDepth 20000 in
theorem lA_538 : (Cond.instanceMethod yX9_told : Cond) ∈ wsA := wA_of 538 (by decide +kernel) rfl
set_option maxRecDepth 20000 in
theorem lA_539 : (Cond.selects RX9 yX9_told yX9_told : Cond) ∈ wsA := wA_of 539 (by decide +kernel) rfl
set_option maxRecDepth 20000 in
theorem lA_540 : (Cond.code yX9_told cX9_told 3 (some .int) : Cond) ∈ wsA := wA_of 540 (by decide +kernel) rfl
set_option maxRecDepth 20000 in
theorem lA_545 : (Cond.methodLink RL 77 yX9_openTo : Cond) ∈ wsA := wA_of 545 (by decide +kernel) rfl
set_option maxRecDepth 20000 in
theorem lA_546 : (Cond.instanceMethod yX9_openTo : Cond) ∈ wsA := wA_of 546 (by decide +kernel) rfl
set_option maxRecDepth 20000 in
theorem lA_547 : (Cond.selects RX9 yX9_openTo yX9_openTo : Cond) ∈ wsA := wA_of 547 (by decide +kernel) rfl
set_option maxRecDepth 20000 in
theorem lA_548 : (Cond.code yX9_openTo cX9_openTo 1 (some .int) : Cond) ∈ wsA := wA_of 548 (by decide +kernel) rfl
set_option maxRecDepth 20000 in
theorem lA_553 : (Cond.methodLink RL 81 yX9_judge : Cond) ∈ wsA := wA_of 553 (by decide +kernel) rfl
set_option maxRecDepth 20000 in
theorem lA_554 : (Cond.instanceMethod yX9_judge : Cond) ∈ wsA := wA_of 554 (by decide +kernel) rfl
set_option maxRecDepth 20000 in
theorem lA_555 : (Cond.selects RX9 yX9_judge yX9_judge : Cond) ∈ wsA := wA_of 555 (by decide +kernel) rfl
set_option maxRecDepth 20000 in
theorem lA_556 : (Cond.code yX9_judge cX9_judge 2 (some .int) : Cond) ∈ wsA := wA_of 556 (by decide +kernel) rfl
set_option maxRecDepth 20000 in
theorem lA_562 : (Cond.methodLink RL 85 yX9_lasts : Cond) ∈ wsA := wA_of 562 (by decide +kernel) rfl
set_option maxRecDepth 20000 in
theorem lA_563 : (Cond.instanceMethod yX9_lasts : Cond) ∈ wsA := wA_of 563 (by decide +kernel) rfl
set_option maxRecDepth 20000 in
theorem lA_564 : (Cond.selects RX9 yX9_lasts yX9_lasts : Cond) ∈ wsA := wA_of 564 (by decide +kernel) rfl
set_option maxRecDepth 20000 in
theorem lA_565 : (Cond.code yX9_lasts cX9_lasts 1 (some .int) : Cond) ∈ wsA := wA_of 565 (by decide +kernel) rfl
set_option maxRecDepth 20000 in
theorem lA_573 : (Cond.methodLink RL 89 yX9_next : Cond) ∈ wsA := wA_of 573 (by decide +kernel) rfl
set_option maxRecDepth 20000 in
theorem lA_574 : (Cond.instanceMethod yX9_next : Cond) ∈ wsA := wA_of 574 (by decide +kernel) rfl
set_option maxRecDepth 20000 in
theorem lA_575 : (Cond.selects RX9 yX9_next yX9_next : Cond) ∈ wsA := wA_of 575 (by decide +kernel) rfl
set_option maxRecDepth 20000 in
theorem lA_576 : (Cond.code yX9_next cX9_next 2 (some .int) : Cond) ∈ wsA := wA_of 576 (by decide +kernel) rfl
set_option maxRecDepth 20000 in
theorem lA_586 : (Cond.methodLink RL 93 yX9_bridged : Cond) ∈ wsA := wA_of 586 (by decide +kernel) rfl
set_option maxRecDepth 20000 in
theorem lA_587 : (Cond.instanceMethod yX9_bridged : Cond) ∈ wsA := wA_of 587 (by decide +kernel) rfl
set_option maxRecDepth 20000 in
theorem lA_588 : (Cond.selects RX9 yX9_bridged yX9_bridged : Cond) ∈ wsA := wA_of 588 (by decide +kernel) rfl
set_option maxRecDepth 20000 in
theorem lA_589 : (Cond.code yX9_bridged cX9_bridged 2 (some .int) : Cond) ∈ wsA := wA_of 589 (by decide +kernel) rfl
set_option maxRecDepth 20000 in
theorem lA_598 : (Cond.methodLink RL 97 yX9_stop : Cond) ∈ wsA := wA_of 598 (by decide +kernel) rfl
set_option maxRecDepth 20000 in
theorem lA_599 : (Cond.instanceMethod yX9_stop : Cond) ∈ wsA := wA_of 599 (by decide +kernel) rfl
set_option maxRecDepth 20000 in
theorem lA_600 : (Cond.selects RX9 yX9_stop yX9_stop : Cond) ∈ wsA := wA_of 600 (by decide +kernel) rfl
set_option maxRecDepth 20000 in
theorem lA_601 : (Cond.code yX9_stop cX9_stop 1 (some .int) : Cond) ∈ wsA := wA_of 601 (by decide +kernel) rfl
set_option maxRecDepth 20000 in
theorem lA_606 : (Cond.methodLink RL 101 yX9_light : Cond) ∈ wsA := wA_of 606 (by decide +kernel) rfl
set_option maxRecDepth 20000 in
theorem lA_607 : (Cond.instanceMethod yX9_light : Cond) ∈ wsA := wA_of 607 (by decide +kernel) rfl
set_option maxRecDepth 20000 in
theorem lA_608 : (Cond.selects RX9 yX9_light yX9_light : Cond) ∈ wsA := wA_of 608 (by decide +kernel) rfl
set_option maxRecDepth 20000 in
theorem lA_609 : (Cond.code yX9_light cX9_light 2 (some .int) : Cond) ∈ wsA := wA_of 609 (by decide +kernel) rfl
set_option maxRecDepth 20000 in
theorem lA_620 : (Cond.methodLink RL 105 yX9_keeps : Cond) ∈ wsA := wA_of 620 (by decide +kernel) rfl
set_option maxRecDepth 20000 in
theorem lA_621 : (Cond.instanceMethod yX9_keeps : Cond) ∈ wsA := wA_of 621 (by decide +kernel) rfl
set_option maxRecDepth 20000 in
theorem lA_622 : (Cond.selects RX9 yX9_keeps yX9_keeps : Cond) ∈ wsA := wA_of 622 (by decide +kernel) rfl
set_option maxRecDepth 20000 in
theorem lA_623 : (Cond.code yX9_keeps cX9_keeps 2 (some .int) : Cond) ∈ wsA := wA_of 623 (by decide +kernel) rfl
set_option maxRecDepth 20000 in
theorem lA_633 : (Cond.methodLink RL 109 yX9_allAnew : Cond) ∈ wsA := wA_of 633 (by decide +kernel) rfl
set_option maxRecDepth 20000 in
theorem lA_634 : (Cond.instanceMethod yX9_allAnew : Cond) ∈ wsA := wA_of 634 (by decide +kernel) rfl
set_option maxRecDepth 20000 in
theorem lA_635 : (Cond.selects RX9 yX9_allAnew yX9_allAnew : Cond) ∈ wsA := wA_of 635 (by decide +kernel) rfl
set_option maxRecDepth 20000 in
theorem lA_636 : (Cond.code yX9_allAnew cX9_allAnew 1 (some .int) : Cond) ∈ wsA := wA_of 636 (by decide +kernel) rfl
set_option maxRecDepth 20000 in
theorem lA_649 : (Cond.methodLink RL 113 yX9_joined : Cond) ∈ wsA := wA_of 649 (by decide +kernel) rfl
set_option maxRecDepth 20000 in
theorem lA_650 : (Cond.instanceMethod yX9_joined : Cond) ∈ wsA := wA_of 650 (by decide +kernel) rfl
set_option maxRecDepth 20000 in
theorem lA_651 : (Cond.selects RX9 yX9_joined yX9_joined : Cond) ∈ wsA := wA_of 651 (by decide +kernel) rfl
set_option maxRecDepth 20000 in
theorem lA_652 : (Cond.code yX9_joined cX9_joined 1 (some .int) : Cond) ∈ wsA := wA_of 652 (by decide +kernel) rfl
set_option maxRecDepth 20000 in
theorem lA_658 : (Cond.methodLink RL 117 yX9_two : Cond) ∈ wsA := wA_of 658 (by decide +kernel) rfl
set_option maxRecDepth 20000 in
theorem lA_659 : (Cond.instanceMethod yX9_two : Cond) ∈ wsA := wA_of 659 (by decide +kernel) rfl
set_option maxRecDepth 20000 in
theorem lA_660 : (Cond.selects RX9 yX9_two yX9_two : Cond) ∈ wsA := wA_of 660 (by decide +kernel) rfl
set_option maxRecDepth 20000 in
theorem lA_661 : (Cond.code yX9_two cX9_two 2 (some .long) : Cond) ∈ wsA := wA_of 661 (by decide +kernel) rfl
set_option maxRecDepth 20000 in
theorem lA_672 : (Cond.methodLink RL 122 yX9_seeds : Cond) ∈ wsA := wA_of 672 (by decide +kernel) rfl
set_option maxRecDepth 20000 in
theorem lA_673 : (Cond.instanceMethod yX9_seeds : Cond) ∈ wsA := wA_of 673 (by decide +kernel) rfl
set_option maxRecDepth 20000 in
theorem lA_674 : (Cond.selects RX9 yX9_seeds yX9_seeds : Cond) ∈ wsA := wA_of 674 (by decide +kernel) rfl
set_option maxRecDepth 20000 in
theorem lA_675 : (Cond.code yX9_seeds cX9_seeds 3 (some .int) : Cond) ∈ wsA := wA_of 675 (by decide +kernel) rfl
set_option maxRecDepth 20000 in
theorem lA_687 : (Cond.methodLink RL 126 yX9_image : Cond) ∈ wsA := wA_of 687 (by decide +kernel) rfl
set_option maxRecDepth 20000 in
theorem lA_688 : (Cond.instanceMethod yX9_image : Cond) ∈ wsA := wA_of 688 (by decide +kernel) rfl
set_option maxRecDepth 20000 in
theorem lA_689 : (Cond.selects RX9 yX9_image yX9_image : Cond) ∈ wsA := wA_of 689 (by decide +kernel) rfl
set_option maxRecDepth 20000 in
theorem lA_690 : (Cond.code yX9_image cX9_image 1 (some .int) : Cond) ∈ wsA := wA_of 690 (by decide +kernel) rfl
set_option maxRecDepth 20000 in
theorem lA_691 : (Cond.methodLink RL 130 yX9_restore : Cond) ∈ wsA := wA_of 691 (by decide +kernel) rfl
set_option maxRecDepth 20000 in
theorem lA_692 : (Cond.instanceMethod yX9_restore : Cond) ∈ wsA := wA_of 692 (by decide +kernel) rfl
set_option maxRecDepth 20000 in
theorem lA_693 : (Cond.selects RX9 yX9_restore yX9_restore : Cond) ∈ wsA := wA_of 693 (by decide +kernel) rfl
set_option maxRecDepth 20000 in
theorem lA_694 : (Cond.code yX9_restore cX9_restore 1 (some .int) : Cond) ∈ wsA := wA_of 694 (by decide +kernel) rfl
set_option maxRecDepth 20000 in
theorem lA_695 : (Cond.methodLink RL 134 yX9_count : Cond) ∈ wsA := wA_of 695 (by decide +kernel) rfl
set_option maxRecDepth 20000 in
theorem lA_696 : (Cond.instanceMethod yX9_count : Cond) ∈ wsA := wA_of 696 (by decide +kernel) rfl
set_option maxRecDepth 20000 in
theorem lA_697 : (Cond.selects RX9 yX9_count yX9_count : Cond) ∈ wsA := wA_of 697 (by decide +kernel) rfl
set_option maxRecDepth 20000 in
theorem lA_698 : (Cond.code yX9_count cX9_count 2 (some .int) : Cond) ∈ wsA := wA_of 698 (by decide +kernel) rfl
set_option maxRecDepth 20000 in
theorem lA_808 : (Cond.methodLink RL 17 yX10_feed : Cond) ∈ wsA := wA_of 808 (by decide +kernel) rfl
set_option maxRecDepth 20000 in
theorem lA_809 : (Cond.instanceMethod yX10_feed : Cond) ∈ wsA := wA_of 809 (by decide +kernel) rfl
set_option maxRecDepth 20000 in
theorem lA_810 : (Cond.selects RX10 yX10_feed yX10_feed : Cond) ∈ wsA := wA_of 810 (by decide +kernel) rfl
set_option maxRecDepth 20000 in
theorem lA_811 : (Cond.code yX10_feed cX10_feed 3 (some .int) : Cond) ∈ wsA := wA_of 811 (by decide +kernel) rfl
set_option maxRecDepth 20000 in
theorem lA_819 : (Cond.methodLink RL 22 yX10_string : Cond) ∈ wsA := wA_of 819 (by decide +kernel) rfl
set_option maxRecDepth 20000 in
theorem lA_820 : (Cond.instanceMethod yX10_string : Cond) ∈ wsA := wA_of 820 (by decide +kernel) rfl
set_option maxRecDepth 20000 in
theorem lA_821 : (Cond.selects RX10 yX10_string yX10_string : Cond) ∈ wsA := wA_of 821 (by decide +kernel) rfl
set_option maxRecDepth 20000 in
theorem lA_822 : (Cond.code yX10_string cX10_string 3 (some .int) : Cond) ∈ wsA := wA_of 822 (by decide +kernel) rfl
set_option maxRecDepth 20000 in
theorem lA_866 : (Cond.methodLink RL 129 yX10_image : Cond) ∈ wsA := wA_of 866 (by decide +kernel) rfl
set_option maxRecDepth 20000 in
theorem lA_867 : (Cond.instanceMethod yX10_image : Cond) ∈ wsA := wA_of 867 (by decide +kernel) rfl
set_option maxRecDepth 20000 in
theorem lA_868 : (Cond.selects RX10 yX10_image yX10_image : Cond) ∈ wsA := wA_of 868 (by decide +kernel) rfl
set_option maxRecDepth 20000 in
theorem lA_869 : (Cond.code yX10_image cX10_image 1 (some .int) : Cond) ∈ wsA := wA_of 869 (by decide +kernel) rfl
set_option maxRecDepth 20000 in
theorem lA_870 : (Cond.methodLink RL 133 yX10_restore : Cond) ∈ wsA := wA_of 870 (by decide +kernel) rfl
set_option maxRecDepth 20000 in
theorem lA_871 : (Cond.instanceMethod yX10_restore : Cond) ∈ wsA := wA_of 871 (by decide +kernel) rfl
set_option maxRecDepth 20000 in
theorem lA_872 : (Cond.selects RX10 yX10_restore yX10_restore : Cond) ∈ wsA := wA_of 872 (by decide +kernel) rfl
set_option maxRecDepth 20000 in
theorem lA_873 : (Cond.code yX10_restore cX10_restore 1 (some .int) : Cond) ∈ wsA := wA_of 873 (by decide +kernel) rfl
set_option maxRecDepth 20000 in
theorem lA_874 : (Cond.methodLink RL 27 yX10_lamp : Cond) ∈ wsA := wA_of 874 (by decide +kernel) rfl
set_option maxRecDepth 20000 in
theorem lA_875 : (Cond.instanceMethod yX10_lamp : Cond) ∈ wsA := wA_of 875 (by decide +kernel) rfl
set_option maxRecDepth 20000 in
theorem lA_876 : (Cond.selects RX10 yX10_lamp yX10_lamp : Cond) ∈ wsA := wA_of 876 (by decide +kernel) rfl
set_option maxRecDepth 20000 in
theorem lA_877 : (Cond.code yX10_lamp cX10_lamp 3 (some .int) : Cond) ∈ wsA := wA_of 877 (by decide +kernel) rfl
set_option maxRecDepth 20000 in
theorem lA_917 : (Cond.methodLink RL 31 yX10_set : Cond) ∈ wsA := wA_of 917 (by decide +kernel) rfl
set_option maxRecDepth 20000 in
theorem lA_918 : (Cond.instanceMethod yX10_set : Cond) ∈ wsA := wA_of 918 (by decide +kernel) rfl
set_option maxRecDepth 20000 in
theorem lA_919 : (Cond.selects RX10 yX10_set yX10_set : Cond) ∈ wsA := wA_of 919 (by decide +kernel) rfl
set_option maxRecDepth 20000 in
theorem lA_920 : (Cond.code yX10_set cX10_set 5 (some .int) : Cond) ∈ wsA := wA_of 920 (by decide +kernel) rfl
set_option maxRecDepth 20000 in
theorem lA_925 : (Cond.methodLink RL 35 yX10_flow : Cond) ∈ wsA := wA_of 925 (by decide +kernel) rfl
set_option maxRecDepth 20000 in
theorem lA_926 : (Cond.instanceMethod yX10_flow : Cond) ∈ wsA := wA_of 926 (by decide +kernel) rfl
set_option maxRecDepth 20000 in
theorem lA_927 : (Cond.selects RX10 yX10_flow yX10_flow : Cond) ∈ wsA := wA_of 927 (by decide +kernel) rfl
set_option maxRecDepth 20000 in
theorem lA_928 : (Cond.code yX10_flow cX10_flow 1 (some .int) : Cond) ∈ wsA := wA_of 928 (by decide +kernel) rfl
set_option maxRecDepth 20000 in
theorem lA_929 : (Cond.methodLink RL 39 yX10_hour : Cond) ∈ wsA := wA_of 929 (by decide +kernel) rfl
set_option maxRecDepth 20000 in
theorem lA_930 : (Cond.instanceMethod yX10_hour : Cond) ∈ wsA := wA_of 930 (by decide +kernel) rfl
set_option maxRecDepth 20000 in
theorem lA_931 : (Cond.selects RX10 yX10_hour yX10_hour : Cond) ∈ wsA := wA_of 931 (by decide +kernel) rfl
set_option maxRecDepth 20000 in
theorem lA_932 : (Cond.code yX10_hour cX10_hour 1 (some .int) : Cond) ∈ wsA := wA_of 932 (by decide +kernel) rfl
set_option maxRecDepth 20000 in
theorem lA_945 : (Cond.methodLink RL 43 yX10_swap : Cond) ∈ wsA := wA_of 945 (by decide +kernel) rfl
set_option maxRecDepth 20000 in
theorem lA_946 : (Cond.instanceMethod yX10_swap : Cond) ∈ wsA := wA_of 946 (by decide +kernel) rfl
set_option maxRecDepth 20000 in
theorem lA_947 : (Cond.selects RX10 yX10_swap yX10_swap : Cond) ∈ wsA := wA_of 947 (by decide +kernel) rfl
set_option maxRecDepth 20000 in
theorem lA_948 : (Cond.code yX10_swap cX10_swap 2 (some .int) : Cond) ∈ wsA := wA_of 948 (by decide +kernel) rfl
set_option maxRecDepth 20000 in
theorem lA_953 : (Cond.methodLink RL 47 yX10_meter : Cond) ∈ wsA := wA_of 953 (by decide +kernel) rfl
set_option maxRecDepth 20000 in
theorem lA_954 : (Cond.instanceMethod yX10_meter : Cond) ∈ wsA := wA_of 954 (by decide +kernel) rfl
set_option maxRecDepth 20000 in
theorem lA_955 : (Cond.selects RX10 yX10_meter yX10_meter : Cond) ∈ wsA := wA_of 955 (by decide +kernel) rfl
set_option maxRecDepth 20000 in
theorem lA_956 : (Cond.code yX10_meter cX10_meter 3 (some .int) : Cond) ∈ wsA := wA_of 956 (by decide +kernel) rfl
set_option maxRecDepth 20000 in
theorem lA_961 : (Cond.methodLink RL 51 yX10_finder : Cond) ∈ wsA := wA_of 961 (by decide +kernel) rfl
set_option maxRecDepth 20000 in
theorem lA_962 : (Cond.instanceMethod yX10_finder : Cond) ∈ wsA := wA_of 962 (by decide +kernel) rfl
set_option maxRecDepth 20000 in
theorem lA_963 : (Cond.selects RX10 yX10_finder yX10_finder : Cond) ∈ wsA := wA_of 963 (by decide +kernel) rfl
set_option maxRecDepth 20000 in
theorem lA_964 : (Cond.code yX10_finder cX10_finder 2 (some .int) : Cond) ∈ wsA := wA_of 964 (by decide +kernel) rfl
set_option maxRecDepth 20000 in
theorem lA_965 : (Cond.methodLink RL 55 yX10_touch : Cond) ∈ wsA := wA_of 965 (by decide +kernel) rfl
set_option maxRecDepth 20000 in
theorem lA_966 : (Cond.instanceMethod yX10_touch : Cond) ∈ wsA := wA_of 966 (by decide +kernel) rfl
set_option maxRecDepth 20000 in
theorem lA_967 : (Cond.selects RX10 yX10_touch yX10_touch : Cond) ∈ wsA := wA_of 967 (by decide +kernel) rfl
set_option maxRecDepth 20000 in
theorem lA_968 : (Cond.code yX10_touch cX10_touch 2 (some .int) : Cond) ∈ wsA := wA_of 968 (by decide +kernel) rfl
set_option maxRecDepth 20000 in
theorem lA_973 : (Cond.methodLink RL 60 yX10_find : Cond) ∈ wsA := wA_of 973 (by decide +kernel) rfl
set_option maxRecDepth 20000 in
theorem lA_974 : (Cond.instanceMethod yX10_find : Cond) ∈ wsA := wA_of 974 (by decide +kernel) rfl
set_option maxRecDepth 20000 in
theorem lA_975 : (Cond.selects RX10 yX10_find yX10_find : Cond) ∈ wsA := wA_of 975 (by decide +kernel) rfl
set_option maxRecDepth 20000 in
theorem lA_976 : (Cond.code yX10_find cX10_find 4 (some .int) : Cond) ∈ wsA := wA_of 976 (by decide +kernel) rfl
set_option maxRecDepth 20000 in
theorem lA_989 : (Cond.methodLink RL 64 yX10_look : Cond) ∈ wsA := wA_of 989 (by decide +kernel) rfl
set_option maxRecDepth 20000 in
theorem lA_990 : (Cond.instanceMethod yX10_look : Cond) ∈ wsA := wA_of 990 (by decide +kernel) rfl
set_option maxRecDepth 20000 in
theorem lA_991 : (Cond.selects RX10 yX10_look yX10_look : Cond) ∈ wsA := wA_of 991 (by decide +kernel) rfl
set_option maxRecDepth 20000 in
theorem lA_992 : (Cond.code yX10_look cX10_look 4 (some .int) : Cond) ∈ wsA := wA_of 992 (by decide +kernel) rfl
set_option maxRecDepth 20000 in
theorem lA_993 : (Cond.methodLink RL 68 yX10_order : Cond) ∈ wsA := wA_of 993 (by decide +kernel) rfl
set_option maxRecDepth 20000 in
theorem lA_994 : (Cond.instanceMethod yX10_order : Cond) ∈ wsA := wA_of 994 (by decide +kernel) rfl
set_option maxRecDepth 20000 in
theorem lA_995 : (Cond.selects RX10 yX10_order yX10_order : Cond) ∈ wsA := wA_of 995 (by decide +kernel) rfl
set_option maxRecDepth 20000 in
theorem lA_996 : (Cond.code yX10_order cX10_order 2 (some .int) : Cond) ∈ wsA := wA_of 996 (by decide +kernel) rfl
set_option maxRecDepth 20000 in
theorem lA_1001 : (Cond.methodLink RL 72 yX10_orderSum : Cond) ∈ wsA := wA_of 1001 (by decide +kernel) rfl
set_option maxRecDepth 20000 in
theorem lA_1002 : (Cond.instanceMethod yX10_orderSum : Cond) ∈ wsA := wA_of 1002 (by decide +kernel) rfl
set_option maxRecDepth 20000 in
theorem lA_1003 : (Cond.selects RX10 yX10_orderSum yX10_orderSum : Cond) ∈ wsA := wA_of 1003 (by decide +kernel) rfl
set_option maxRecDepth 20000 in
theorem lA_1004 : (Cond.code yX10_orderSum cX10_orderSum 4 (some .int) : Cond) ∈ wsA := wA_of 1004 (by decide +kernel) rfl
set_option maxRecDepth 20000 in
theorem lA_1005 : (Cond.methodLink RL 76 yX10_told : Cond) ∈ wsA := wA_of 1005 (by decide +kernel) rfl
set_option maxRecDepth 20000 in
theorem lA_1006 : (Cond.instanceMethod yX10_told : Cond) ∈ wsA := wA_of 1006 (by decide +kernel) rfl
set_option maxRecDepth 20000 in
theorem lA_1007 : (Cond.selects RX10 yX10_told yX10_told : Cond) ∈ wsA := wA_of 1007 (by decide +kernel) rfl
set_option maxRecDepth 20000 in
theorem lA_1008 : (Cond.code yX10_told cX10_told 3 (some .int) : Cond) ∈ wsA := wA_of 1008 (by decide +kernel) rfl
set_option maxRecDepth 20000 in
theorem lA_1009 : (Cond.methodLink RL 80 yX10_openTo : Cond) ∈ wsA := wA_of 1009 (by decide +kernel) rfl
set_option maxRecDepth 20000 in
theorem lA_1010 : (Cond.instanceMethod yX10_openTo : Cond) ∈ wsA := wA_of 1010 (by decide +kernel) rfl
set_option maxRecDepth 20000 in
theorem lA_1011 : (Cond.selects RX10 yX10_openTo yX10_openTo : Cond) ∈ wsA := wA_of 1011 (by decide +kernel) rfl
set_option maxRecDepth 20000 in
theorem lA_1012 : (Cond.code yX10_openTo cX10_openTo 1 (some .int) : Cond) ∈ wsA := wA_of 1012 (by decide +kernel) rfl
set_option maxRecDepth 20000 in
theorem lA_1017 : (Cond.methodLink RL 84 yX10_judge : Cond) ∈ wsA := wA_of 1017 (by decide +kernel) rfl
set_option maxRecDepth 20000 in
theorem lA_1018 : (Cond.instanceMethod yX10_judge : Cond) ∈ wsA := wA_of 1018 (by decide +kernel) rfl
set_option maxRecDepth 20000 in
theorem lA_1019 : (Cond.selects RX10 yX10_judge yX10_judge : Cond) ∈ wsA := wA_of 1019 (by decide +kernel) rfl
set_option maxRecDepth 20000 in
theorem lA_1020 : (Cond.code yX10_judge cX10_judge 3 (some .int) : Cond) ∈ wsA := wA_of 1020 (by decide +kernel) rfl
set_option maxRecDepth 20000 in
theorem lA_1021 : (Cond.methodLink RL 88 yX10_lasts : Cond) ∈ wsA := wA_of 1021 (by decide +kernel) rfl
set_option maxRecDepth 20000 in
theorem lA_1022 : (Cond.instanceMethod yX10_lasts : Cond) ∈ wsA := wA_of 1022 (by decide +kernel) rfl
set_option maxRecDepth 20000 in
theorem lA_1023 : (Cond.selects RX10 yX10_lasts yX10_lasts : Cond) ∈ wsA := wA_of 1023 (by decide +kernel) rfl
set_option maxRecDepth 20000 in
theorem lA_1024 : (Cond.code yX10_lasts cX10_lasts 3 (some .int) : Cond) ∈ wsA := wA_of 1024 (by decide +kernel) rfl
set_option maxRecDepth 20000 in
theorem lA_1025 : (Cond.methodLink RL 92 yX10_next : Cond) ∈ wsA := wA_of 1025 (by decide +kernel) rfl
set_option maxRecDepth 20000 in
theorem lA_1026 : (Cond.instanceMethod yX10_next : Cond) ∈ wsA := wA_of 1026 (by decide +kernel) rfl
set_option maxRecDepth 20000 in
theorem lA_1027 : (Cond.selects RX10 yX10_next yX10_next : Cond) ∈ wsA := wA_of 1027 (by decide +kernel) rfl
set_option maxRecDepth 20000 in
theorem lA_1028 : (Cond.code yX10_next cX10_next 2 (some .int) : Cond) ∈ wsA := wA_of 1028 (by decide +kernel) rfl
set_option maxRecDepth 20000 in
theorem lA_1033 : (Cond.methodLink RL 96 yX10_bridged : Cond) ∈ wsA := wA_of 1033 (by decide +kernel) rfl
set_option maxRecDepth 20000 in
theorem lA_1034 : (Cond.instanceMethod yX10_bridged : Cond) ∈ wsA := wA_of 1034 (by decide +kernel) rfl
set_option maxRecDepth 20000 in
theorem lA_1035 : (Cond.selects RX10 yX10_bridged yX10_bridged : Cond) ∈ wsA := wA_of 1035 (by decide +kernel) rfl
set_option maxRecDepth 20000 in
theorem lA_1036 : (Cond.code yX10_bridged cX10_bridged 5 (some .int) : Cond) ∈ wsA := wA_of 1036 (by decide +kernel) rfl
set_option maxRecDepth 20000 in
theorem lA_1041 : (Cond.methodLink RL 100 yX10_stop : Cond) ∈ wsA := wA_of 1041 (by decide +kernel) rfl
set_option maxRecDepth 20000 in
theorem lA_1042 : (Cond.instanceMethod yX10_stop : Cond) ∈ wsA := wA_of 1042 (by decide +kernel) rfl
set_option maxRecDepth 20000 in
theorem lA_1043 : (Cond.selects RX10 yX10_stop yX10_stop : Cond) ∈ wsA := wA_of 1043 (by decide +kernel) rfl
set_option maxRecDepth 20000 in
theorem lA_1044 : (Cond.code yX10_stop cX10_stop 2 (some .int) : Cond) ∈ wsA := wA_of 1044 (by decide +kernel) rfl
set_option maxRecDepth 20000 in
theorem lA_1045 : (Cond.methodLink RL 104 yX10_light : Cond) ∈ wsA := wA_of 1045 (by decide +kernel) rfl
set_option maxRecDepth 20000 in
theorem lA_1046 : (Cond.instanceMethod yX10_light : Cond) ∈ wsA := wA_of 1046 (by decide +kernel) rfl
set_option maxRecDepth 20000 in
theorem lA_1047 : (Cond.selects RX10 yX10_light yX10_light : Cond) ∈ wsA := wA_of 1047 (by decide +kernel) rfl
set_option maxRecDepth 20000 in
theorem lA_1048 : (Cond.code yX10_light cX10_light 7 (some .int) : Cond) ∈ wsA := wA_of 1048 (by decide +kernel) rfl
set_option maxRecDepth 20000 in
theorem lA_1049 : (Cond.methodLink RL 108 yX10_keeps : Cond) ∈ wsA := wA_of 1049 (by decide +kernel) rfl
set_option maxRecDepth 20000 in
theorem lA_1050 : (Cond.instanceMethod yX10_keeps : Cond) ∈ wsA := wA_of 1050 (by decide +kernel) rfl
set_option maxRecDepth 20000 in
theorem lA_1051 : (Cond.selects RX10 yX10_keeps yX10_keeps : Cond) ∈ wsA := wA_of 1051 (by decide +kernel) rfl
set_option maxRecDepth 20000 in
theorem lA_1052 : (Cond.code yX10_keeps cX10_keeps 6 (some .int) : Cond) ∈ wsA := wA_of 1052 (by decide +kernel) rfl
set_option maxRecDepth 20000 in
theorem lA_1053 : (Cond.methodLink RL 112 yX10_allAnew : Cond) ∈ wsA := wA_of 1053 (by decide +kernel) rfl
set_option maxRecDepth 20000 in
theorem lA_1054 : (Cond.instanceMethod yX10_allAnew : Cond) ∈ wsA := wA_of 1054 (by decide +kernel) rfl
set_option maxRecDepth 20000 in
theorem lA_1055 : (Cond.selects RX10 yX10_allAnew yX10_allAnew : Cond) ∈ wsA := wA_of 1055 (by decide +kernel) rfl
set_option maxRecDepth 20000 in
theorem lA_1056 : (Cond.code yX10_allAnew cX10_allAnew 2 (some .int) : Cond) ∈ wsA := wA_of 1056 (by decide +kernel) rfl
set_option maxRecDepth 20000 in
theorem lA_1061 : (Cond.methodLink RL 116 yX10_joined : Cond) ∈ wsA := wA_of 1061 (by decide +kernel) rfl
set_option maxRecDepth 20000 in
theorem lA_1062 : (Cond.instanceMethod yX10_joined : Cond) ∈ wsA := wA_of 1062 (by decide +kernel) rfl
set_option maxRecDepth 20000 in
theorem lA_1063 : (Cond.selects RX10 yX10_joined yX10_joined : Cond) ∈ wsA := wA_of 1063 (by decide +kernel) rfl
set_option maxRecDepth 20000 in
theorem lA_1064 : (Cond.code yX10_joined cX10_joined 2 (some .int) : Cond) ∈ wsA := wA_of 1064 (by decide +kernel) rfl
set_option maxRecDepth 20000 in
theorem lA_1065 : (Cond.methodLink RL 121 yX10_two : Cond) ∈ wsA := wA_of 1065 (by decide +kernel) rfl
set_option maxRecDepth 20000 in
theorem lA_1066 : (Cond.instanceMethod yX10_two : Cond) ∈ wsA := wA_of 1066 (by decide +kernel) rfl
set_option maxRecDepth 20000 in
theorem lA_1067 : (Cond.selects RX10 yX10_two yX10_two : Cond) ∈ wsA := wA_of 1067 (by decide +kernel) rfl
set_option maxRecDepth 20000 in
theorem lA_1068 : (Cond.code yX10_two cX10_two 12 (some .long) : Cond) ∈ wsA := wA_of 1068 (by decide +kernel) rfl
set_option maxRecDepth 20000 in
theorem lA_1078 : (Cond.methodLink RL 125 yX10_seeds : Cond) ∈ wsA := wA_of 1078 (by decide +kernel) rfl
set_option maxRecDepth 20000 in
theorem lA_1079 : (Cond.instanceMethod yX10_seeds : Cond) ∈ wsA := wA_of 1079 (by decide +kernel) rfl
set_option maxRecDepth 20000 in
theorem lA_1080 : (Cond.selects RX10 yX10_seeds yX10_seeds : Cond) ∈ wsA := wA_of 1080 (by decide +kernel) rfl
set_option maxRecDepth 20000 in
theorem lA_1081 : (Cond.code yX10_seeds cX10_seeds 6 (some .int) : Cond) ∈ wsA := wA_of 1081 (by decide +kernel) rfl
set_option maxRecDepth 20000 in
theorem lA_1085 : (Cond.methodLink RL 137 yX10_count : Cond) ∈ wsA := wA_of 1085 (by decide +kernel) rfl
set_option maxRecDepth 20000 in
theorem lA_1086 : (Cond.instanceMethod yX10_count : Cond) ∈ wsA := wA_of 1086 (by decide +kernel) rfl
set_option maxRecDepth 20000 in
theorem lA_1087 : (Cond.selects RX10 yX10_count yX10_count : Cond) ∈ wsA := wA_of 1087 (by decide +kernel) rfl
set_option maxRecDepth 20000 in
theorem lA_1088 : (Cond.code yX10_count cX10_count 4 (some .int) : Cond) ∈ wsA := wA_of 1088 (by decide +kernel) rfl
theorem gl_L_13 : GoodIn wsA (wsV RL 13 RX9 yX9_feed (wsM yX9_feed cX9_feed 2 (some .int))) := wgV lA_262 lA_263 lA_264 lA_50 lA_265
theorem gl_L_17 : GoodIn wsA (wsV RL 17 RX10 yX10_feed (wsM yX10_feed cX10_feed 3 (some .int))) := wgV lA_808 lA_809 lA_810 lA_59 lA_811
theorem gl_L_18 : GoodIn wsA (wsV RL 18 RX9 yX9_string (wsM yX9_string cX9_string 4 (some .int))) := wgV lA_274 lA_275 lA_276 lA_50 lA_277
theorem gl_L_22 : GoodIn wsA (wsV RL 22 RX10 yX10_string (wsM yX10_string cX10_string 3 (some .int))) := wgV lA_819 lA_820 lA_821 lA_59 lA_822
theorem gl_L_23 : GoodIn wsA (wsV RL 23 RX9 yX9_lamp (wsM yX9_lamp cX9_lamp 4 (some .int))) := wgV lA_350 lA_351 lA_352 lA_50 lA_353
theorem gl_L_27 : GoodIn wsA (wsV RL 27 RX10 yX10_lamp (wsM yX10_lamp cX10_lamp 3 (some .int))) := wgV lA_874 lA_875 lA_876 lA_59 lA_877
theorem gl_L_28 : GoodIn wsA (wsV RL 28 RX9 yX9_set (wsM yX9_set cX9_set 4 (some .int))) := wgV lA_408 lA_409 lA_410 lA_50 lA_411
theorem gl_L_31 : GoodIn wsA (wsV RL 31 RX10 yX10_set (wsM yX10_set cX10_set 5 (some .int))) := wgV lA_917 lA_918 lA_919 lA_59 lA_920
theorem gl_L_32 : GoodIn wsA (wsV RL 32 RX9 yX9_flow (wsM yX9_flow cX9_flow 1 (some .int))) := wgV lA_414 lA_415 lA_416 lA_50 lA_417
theorem gl_L_35 : GoodIn wsA (wsV RL 35 RX10 yX10_flow (wsM yX10_flow cX10_flow 1 (some .int))) := wgV lA_925 lA_926 lA_927 lA_59 lA_928
theorem gl_L_36 : GoodIn wsA (wsV RL 36 RX9 yX9_hour (wsM yX9_hour cX9_hour 1 (some .int))) := wgV lA_418 lA_419 lA_420 lA_50 lA_421
theorem gl_L_39 : GoodIn wsA (wsV RL 39 RX10 yX10_hour (wsM yX10_hour cX10_hour 1 (some .int))) := wgV lA_929 lA_930 lA_931 lA_59 lA_932
theorem gl_L_40 : GoodIn wsA (wsV RL 40 RX9 yX9_swap (wsM yX9_swap cX9_swap 2 (some .int))) := wgV lA_445 lA_446 lA_447 lA_50 lA_448
theorem gl_L_43 : GoodIn wsA (wsV RL 43 RX10 yX10_swap (wsM yX10_swap cX10_swap 2 (some .int))) := wgV lA_945 lA_946 lA_947 lA_59 lA_948
theorem gl_L_44 : GoodIn wsA (wsV RL 44 RX9 yX9_meter (wsM yX9_meter cX9_meter 3 (some .int))) := wgV lA_454 lA_455 lA_456 lA_50 lA_457
theorem gl_L_47 : GoodIn wsA (wsV RL 47 RX10 yX10_meter (wsM yX10_meter cX10_meter 3 (some .int))) := wgV lA_953 lA_954 lA_955 lA_59 lA_956
theorem gl_L_48 : GoodIn wsA (wsV RL 48 RX9 yX9_finder (wsM yX9_finder cX9_finder 2 (some .int))) := wgV lA_463 lA_464 lA_465 lA_50 lA_466
theorem gl_L_51 : GoodIn wsA (wsV RL 51 RX10 yX10_finder (wsM yX10_finder cX10_finder 2 (some .int))) := wgV lA_961 lA_962 lA_963 lA_59 lA_964
theorem gl_L_52 : GoodIn wsA (wsV RL 52 RX9 yX9_touch (wsM yX9_touch cX9_touch 2 (some .int))) := wgV lA_467 lA_468 lA_469 lA_50 lA_470
theorem gl_L_55 : GoodIn wsA (wsV RL 55 RX10 yX10_touch (wsM yX10_touch cX10_touch 2 (some .int))) := wgV lA_965 lA_966 lA_967 lA_59 lA_968
theorem gl_L_56 : GoodIn wsA (wsV RL 56 RX9 yX9_find (wsM yX9_find cX9_find 4 (some .int))) := wgV lA_479 lA_480 lA_481 lA_50 lA_482
theorem gl_L_60 : GoodIn wsA (wsV RL 60 RX10 yX10_find (wsM yX10_find cX10_find 4 (some .int))) := wgV lA_973 lA_974 lA_975 lA_59 lA_976
theorem gl_L_61 : GoodIn wsA (wsV RL 61 RX9 yX9_look (wsM yX9_look cX9_look 4 (some .int))) := wgV lA_508 lA_509 lA_510 lA_50 lA_511
theorem gl_L_64 : GoodIn wsA (wsV RL 64 RX10 yX10_look (wsM yX10_look cX10_look 4 (some .int))) := wgV lA_989 lA_990 lA_991 lA_59 lA_992
theorem gl_L_65 : GoodIn wsA (wsV RL 65 RX9 yX9_order (wsM yX9_order cX9_order 2 (some .int))) := wgV lA_517 lA_518 lA_519 lA_50 lA_520
theorem gl_L_68 : GoodIn wsA (wsV RL 68 RX10 yX10_order (wsM yX10_order cX10_order 2 (some .int))) := wgV lA_993 lA_994 lA_995 lA_59 lA_996
theorem gl_L_69 : GoodIn wsA (wsV RL 69 RX9 yX9_orderSum (wsM yX9_orderSum cX9_orderSum 1 (some .int))) := wgV lA_529 lA_530 lA_531 lA_50 lA_532
theorem gl_L_72 : GoodIn wsA (wsV RL 72 RX10 yX10_orderSum (wsM yX10_orderSum cX10_orderSum 4 (some .int))) := wgV lA_1001 lA_1002 lA_1003 lA_59 lA_1004
theorem gl_L_73 : GoodIn wsA (wsV RL 73 RX9 yX9_told (wsM yX9_told cX9_told 3 (some .int))) := wgV lA_537 lA_538 lA_539 lA_50 lA_540
theorem gl_L_76 : GoodIn wsA (wsV RL 76 RX10 yX10_told (wsM yX10_told cX10_told 3 (some .int))) := wgV lA_1005 lA_1006 lA_1007 lA_59 lA_1008
theorem gl_L_77 : GoodIn wsA (wsV RL 77 RX9 yX9_openTo (wsM yX9_openTo cX9_openTo 1 (some .int))) := wgV lA_545 lA_546 lA_547 lA_50 lA_548
theorem gl_L_80 : GoodIn wsA (wsV RL 80 RX10 yX10_openTo (wsM yX10_openTo cX10_openTo 1 (some .int))) := wgV lA_1009 lA_1010 lA_1011 lA_59 lA_1012
theorem gl_L_81 : GoodIn wsA (wsV RL 81 RX9 yX9_judge (wsM yX9_judge cX9_judge 2 (some .int))) := wgV lA_553 lA_554 lA_555 lA_50 lA_556
theorem gl_L_84 : GoodIn wsA (wsV RL 84 RX10 yX10_judge (wsM yX10_judge cX10_judge 3 (some .int))) := wgV lA_1017 lA_1018 lA_1019 lA_59 lA_1020
theorem gl_L_85 : GoodIn wsA (wsV RL 85 RX9 yX9_lasts (wsM yX9_lasts cX9_lasts 1 (some .int))) := wgV lA_562 lA_563 lA_564 lA_50 lA_565
theorem gl_L_88 : GoodIn wsA (wsV RL 88 RX10 yX10_lasts (wsM yX10_lasts cX10_lasts 3 (some .int))) := wgV lA_1021 lA_1022 lA_1023 lA_59 lA_1024
theorem gl_L_89 : GoodIn wsA (wsV RL 89 RX9 yX9_next (wsM yX9_next cX9_next 2 (some .int))) := wgV lA_573 lA_574 lA_575 lA_50 lA_576
theorem gl_L_92 : GoodIn wsA (wsV RL 92 RX10 yX10_next (wsM yX10_next cX10_next 2 (some .int))) := wgV lA_1025 lA_1026 lA_1027 lA_59 lA_1028
theorem gl_L_93 : GoodIn wsA (wsV RL 93 RX9 yX9_bridged (wsM yX9_bridged cX9_bridged 2 (some .int))) := wgV lA_586 lA_587 lA_588 lA_50 lA_589
theorem gl_L_96 : GoodIn wsA (wsV RL 96 RX10 yX10_bridged (wsM yX10_bridged cX10_bridged 5 (some .int))) := wgV lA_1033 lA_1034 lA_1035 lA_59 lA_1036
theorem gl_L_97 : GoodIn wsA (wsV RL 97 RX9 yX9_stop (wsM yX9_stop cX9_stop 1 (some .int))) := wgV lA_598 lA_599 lA_600 lA_50 lA_601
theorem gl_L_100 : GoodIn wsA (wsV RL 100 RX10 yX10_stop (wsM yX10_stop cX10_stop 2 (some .int))) := wgV lA_1041 lA_1042 lA_1043 lA_59 lA_1044
theorem gl_L_101 : GoodIn wsA (wsV RL 101 RX9 yX9_light (wsM yX9_light cX9_light 2 (some .int))) := wgV lA_606 lA_607 lA_608 lA_50 lA_609
theorem gl_L_104 : GoodIn wsA (wsV RL 104 RX10 yX10_light (wsM yX10_light cX10_light 7 (some .int))) := wgV lA_1045 lA_1046 lA_1047 lA_59 lA_1048
theorem gl_L_105 : GoodIn wsA (wsV RL 105 RX9 yX9_keeps (wsM yX9_keeps cX9_keeps 2 (some .int))) := wgV lA_620 lA_621 lA_622 lA_50 lA_623
theorem gl_L_108 : GoodIn wsA (wsV RL 108 RX10 yX10_keeps (wsM yX10_keeps cX10_keeps 6 (some .int))) := wgV lA_1049 lA_1050 lA_1051 lA_59 lA_1052
theorem gl_L_109 : GoodIn wsA (wsV RL 109 RX9 yX9_allAnew (wsM yX9_allAnew cX9_allAnew 1 (some .int))) := wgV lA_633 lA_634 lA_635 lA_50 lA_636
theorem gl_L_112 : GoodIn wsA (wsV RL 112 RX10 yX10_allAnew (wsM yX10_allAnew cX10_allAnew 2 (some .int))) := wgV lA_1053 lA_1054 lA_1055 lA_59 lA_1056
theorem gl_L_113 : GoodIn wsA (wsV RL 113 RX9 yX9_joined (wsM yX9_joined cX9_joined 1 (some .int))) := wgV lA_649 lA_650 lA_651 lA_50 lA_652
theorem gl_L_116 : GoodIn wsA (wsV RL 116 RX10 yX10_joined (wsM yX10_joined cX10_joined 2 (some .int))) := wgV lA_1061 lA_1062 lA_1063 lA_59 lA_1064
theorem gl_L_117 : GoodIn wsA (wsV RL 117 RX9 yX9_two (wsM yX9_two cX9_two 2 (some .long))) := wgV lA_658 lA_659 lA_660 lA_50 lA_661
theorem gl_L_121 : GoodIn wsA (wsV RL 121 RX10 yX10_two (wsM yX10_two cX10_two 12 (some .long))) := wgV lA_1065 lA_1066 lA_1067 lA_59 lA_1068
theorem gl_L_122 : GoodIn wsA (wsV RL 122 RX9 yX9_seeds (wsM yX9_seeds cX9_seeds 3 (some .int))) := wgV lA_672 lA_673 lA_674 lA_50 lA_675
theorem gl_L_125 : GoodIn wsA (wsV RL 125 RX10 yX10_seeds (wsM yX10_seeds cX10_seeds 6 (some .int))) := wgV lA_1078 lA_1079 lA_1080 lA_59 lA_1081
theorem gl_L_126 : GoodIn wsA (wsV RL 126 RX9 yX9_image (wsM yX9_image cX9_image 1 (some .int))) := wgV lA_687 lA_688 lA_689 lA_50 lA_690
theorem gl_L_129 : GoodIn wsA (wsV RL 129 RX10 yX10_image (wsM yX10_image cX10_image 1 (some .int))) := wgV lA_866 lA_867 lA_868 lA_59 lA_869
theorem gl_L_130 : GoodIn wsA (wsV RL 130 RX9 yX9_restore (wsM yX9_restore cX9_restore 1 (some .int))) := wgV lA_691 lA_692 lA_693 lA_50 lA_694
theorem gl_L_133 : GoodIn wsA (wsV RL 133 RX10 yX10_restore (wsM yX10_restore cX10_restore 1 (some .int))) := wgV lA_870 lA_871 lA_872 lA_59 lA_873
theorem gl_L_134 : GoodIn wsA (wsV RL 134 RX9 yX9_count (wsM yX9_count cX9_count 2 (some .int))) := wgV lA_695 lA_696 lA_697 lA_50 lA_698
theorem gl_L_137 : GoodIn wsA (wsV RL 137 RX10 yX10_count (wsM yX10_count cX10_count 4 (some .int))) := wgV lA_1085 lA_1086 lA_1087 lA_59 lA_1088
/-! THE CLAIM OUT OF ONE WALK OF THE LAW'S BODY. Your part is whole_start (and what it stands on); all else here is the same for every law, but numbers. -/
def R_law : String := "OneLampAllOutLaw"
def lw_P (b : Addr) (xs : List Int32) (args : Array Value) (s : State) : Prop := args = #[.ref b] ∧ s.IntsAt b xs ∧ xs.length ≤ 2048 ∧ (Jvm.Cond.and given_1 narrow_1).before args s = true
def lw_Q (_ : Array Value) (s : State) (o : Outcome) (t : State) : Prop := o = .returned (some (.int 1)) ∧ Framed s o t [] 600000 7302250
def lw_Z (below : List Frame) (a : Array Value) (s : State) : State → Prop := fun t => ∃ o, t.status = .running ∧ Ended t below o ∧ lw_Q a s o t
/-- the law's own end, with 1 on the stack, nothing written that was there before, its room as the claim has it -/
theorem lw_ret {p : Program} {l : Launch} {e : Env} {s : State} {m : MethodId} {below : List Frame} {meth : Method} {c : Code} {b : Nat} (hx : p.tables.exec = Jvm.exec) (hb : c.code = code) (hr : meth.sig.returnType = ret) (hlocks : meth.locks = false) {pc : Nat} {H : Heap} {ls : Array Slot} (hdg : decode code pc = .ok (.ireturn, 1)) : W p l e room_1 s m #[Value.ref b] below meth c H [] 600000 7302250 (lw_Z below #[Value.ref b] s) (F0 m pc ls [.int 1]) := by
  intro T hT X
  obtain ⟨fs, hret, hrun, hended, hW, hframe⟩ := X.leave (v := some (.int 1)) (hlocks := hlocks) (fun h => by rw [hr] at h; cases h)
  have hmeth' : T.vm.method? m = some meth := X.method'
  refine ⟨T.setFrames fs, ?_, .returned (some (.int 1)), hrun, hended, rfl, ⟨_, rfl⟩, hW, hframe⟩
  jvm_step X.here [X.here.top, hx, hb, hdg, hmeth', hr, ret, narrow_b1]
  (try refine ⟨rfl, ?_⟩); (try refine ⟨rfl, ?_⟩)
  first | (intro acts; rw [hret _ acts rfl rfl rfl]) | rw [hret _ _ rfl rfl rfl]
  exact Steps.refl _
/-- what holds at the law's entry: the machine, the code, the tables' words (any of lw_tbl by 'hts w (by decide +kernel)'), the script of L ints xs at the cell b, what the Statement gives of the start (any of its parts by flat_of_before) -/
def lw_At (p : Program) (s : State) (m : MethodId) (meth : Method) (c : Code) (b L : Nat) (xs : Nat → Int32) : Prop :=
  p.tables.exec = Jvm.exec ∧ c.code = code ∧ meth.sig.returnType = ret ∧ c.maxLocals = 4 ∧ s.vm.findClass R_law = some m.cls ∧ (∀ w ∈ lw_tbl, w.before #[Value.ref b] s = true) ∧ va_X b L xs s s.heap ∧ b < s.heap.size ∧ meth.locks = false ∧ (Jvm.Cond.and given_1 narrow_1).before #[Value.ref b] s = true
theorem lg_self (r : Int64) : lg_cmp r r = 0 := by
  unfold lg_cmp
  rw [if_neg (show ¬ r > r from Int64.lt_irrefl), if_pos rfl]
section
variable {p : Program} {l : Launch} {e : Env} {s : State} {m : MethodId} {below : List Frame} {meth : Method} {c : Code} {E : wE} {b L : Nat} {xs : Nat → Int32} {cells slots : Nat} {Q : State → Prop}
/-- what holds all through the law -/
def lB (E : wE) (p : Program) (s : State) (m : MethodId) (c : Code) (b L : Nat) (xs : Nat → Int32) : Prop := p.tables.exec = Jvm.exec ∧ c.code = cL_law ∧ c.maxLocals = 4 ∧ s.vm.findClass RL = some m.cls ∧ (∀ w ∈ wsA, w.before #[Value.ref b] s = true) ∧ wG E ∧ wV E s ∧ wZ E s s.heap ∧ va_X b L xs s s.heap ∧ b < s.heap.size ∧ ¬ wA E b ∧ L ≤ 2048
set_option maxRecDepth 100000 in
set_option maxHeartbeats 4000000 in
theorem law_feed (B : lB E p s m c b L xs) {i : Nat} (hi : i + 4 ≤ L) {M : wMem} {H : Heap} {locs : List Loc} {ls : Array Slot} (hI : wInv M) (hW : wH E M H) (hS : va_S (wA E) s.heap H locs) (hl : lv_has ls 4 [(0, .ref b), (1, .ref (wad E 0)), (2, .ref (wad E 70)), (3, .int (nI i))]) (hf : cells ≤ room_1.cells ∧ slots ≤ room_1.slots) (kk : ∀ (M' : wMem) (H' : Heap) (locs' : List Loc), wInv M' → wH E M' H' → va_S (wA E) s.heap H' locs' → W p l e room_1 s m #[Value.ref b] below meth c H' locs' cells slots Q (F0 m 829 ls [])) : W p l e room_1 s m #[Value.ref b] below meth c H locs cells slots Q (F0 m 168 ls []) := by
  obtain ⟨hx, hb, hml, hown, hts, hG, hV, hZ, hX, hbl, hbA, hL⟩ := id B
  obtain ⟨n0, L0, st0, hr0, t0, A0, R0, c0, p0, a0, o0, hJ⟩ := hI
  have h1 : vp_in (nI i + 1) L := by
    rw [show nI i + 1 = nI (i + 1) from nI_add i 1]
    exact vp_in_nI (by omega) (by omega)
  obtain ⟨r, M1, M2, f1, f2, hI2⟩ := k_feed hJ (xs (nI i + 1).toNatClampNeg)
  replace f1 : fX9_feed M (xs (nI i + 1).toNatClampNeg) = some (r, M1) := f1
  replace f2 : fX10_feed M1 (xs (nI i + 1).toNatClampNeg) = some (r, M2) := f2
  refine lv_aload_n hx hb dL_law_168 rfl (lv_at hl 1 rfl) ?_
  refine lv_aload_n hx hb dL_law_169 rfl (lv_at hl 0 rfl) ?_
  refine lv_iload_n hx hb dL_law_170 rfl (lv_at hl 3 rfl) ?_
  refine lv_iconst (v := 1) hx hb dL_law_171 (by decide) ?_
  refine lv_iadd hx hb dL_law_172 ?_
  refine va_sld hx hb hX hbl hbA hS h1 dL_law_173 ?_
  refine wc_V (As := [.int (xs (nI i + 1).toNatClampNeg)]) (rest := []) hx hb hml hown hts hG hV hZ (wlt_8 (rfl : wkd 0 = 8)) (q := (RX9, TX9, 10)) (wen_8 (rfl : wkd 0 = 8)) rfl (cX9_feed_ok l E M (xs (nI i + 1).toNatClampNeg) f1) (cwV 1 hts gl_L_13 rfl rfl rfl cdX9_feed ⟨Nat.le_of_ble_eq_true rfl, Nat.le_of_ble_eq_true rfl⟩) rfl hl.1 rfl (Nat.le_of_ble_eq_true rfl) dL_law_174 hf hW hS rfl (fun H locs hW hS => ?_)
  refine lv_aload_n hx hb dL_law_177 rfl (lv_at hl 2 rfl) ?_
  refine lv_aload_n hx hb dL_law_178 rfl (lv_at hl 0 rfl) ?_
  refine lv_iload_n hx hb dL_law_179 rfl (lv_at hl 3 rfl) ?_
  refine lv_iconst (v := 1) hx hb dL_law_180 (by decide) ?_
  refine lv_iadd hx hb dL_law_181 ?_
  refine va_sld hx hb hX hbl hbA hS h1 dL_law_182 ?_
  refine wc_V (As := [.int (xs (nI i + 1).toNatClampNeg)]) (rest := [.int r]) hx hb hml hown hts hG hV hZ (wlt_9 (rfl : wkd 70 = 9)) (q := (RX10, TX10, 31)) (wen_9 (rfl : wkd 70 = 9)) rfl (cX10_feed_ok l E M1 (xs (nI i + 1).toNatClampNeg) f2) (cwV 1 hts gl_L_17 rfl rfl rfl cdX10_feed ⟨Nat.le_of_ble_eq_true rfl, Nat.le_of_ble_eq_true rfl⟩) rfl hl.1 rfl (Nat.le_of_ble_eq_true rfl) dL_law_183 hf hW hS rfl (fun H locs hW hS => ?_)
  exact lv_icmp_eq (tgt := 829) hx hb dL_law_186 (by decide) (fun _ => kk _ H locs hI2 hW hS) (fun z => absurd rfl z)
set_option maxRecDepth 100000 in
set_option maxHeartbeats 4000000 in
theorem law_string (B : lB E p s m c b L xs) {i : Nat} (hi : i + 4 ≤ L) {M : wMem} {H : Heap} {locs : List Loc} {ls : Array Slot} (hI : wInv M) (hW : wH E M H) (hS : va_S (wA E) s.heap H locs) (hl : lv_has ls 4 [(0, .ref b), (1, .ref (wad E 0)), (2, .ref (wad E 70)), (3, .int (nI i))]) (hf : cells ≤ room_1.cells ∧ slots ≤ room_1.slots) (kk : ∀ (M' : wMem) (H' : Heap) (locs' : List Loc), wInv M' → wH E M' H' → va_S (wA E) s.heap H' locs' → W p l e room_1 s m #[Value.ref b] below meth c H' locs' cells slots Q (F0 m 829 ls [])) : W p l e room_1 s m #[Value.ref b] below meth c H locs cells slots Q (F0 m 191 ls []) := by
  obtain ⟨hx, hb, hml, hown, hts, hG, hV, hZ, hX, hbl, hbA, hL⟩ := id B
  obtain ⟨n0, L0, st0, hr0, t0, A0, R0, c0, p0, a0, o0, hJ⟩ := hI
  obtain ⟨r, M1, M2, f1, f2, hI2⟩ := k_string hJ
  replace f1 : fX9_string M = some (r, M1) := f1
  replace f2 : fX10_string M1 = some (r, M2) := f2
  refine lv_aload_n hx hb dL_law_191 rfl (lv_at hl 1 rfl) ?_
  refine wc_V (As := []) (rest := []) hx hb hml hown hts hG hV hZ (wlt_8 (rfl : wkd 0 = 8)) (q := (RX9, TX9, 10)) (wen_8 (rfl : wkd 0 = 8)) rfl (cX9_string_ok l E M f1) (cwV 0 hts gl_L_18 rfl rfl rfl cdX9_string ⟨Nat.le_of_ble_eq_true rfl, Nat.le_of_ble_eq_true rfl⟩) rfl hl.1 rfl (Nat.le_of_ble_eq_true rfl) dL_law_192 hf hW hS rfl (fun H locs hW hS => ?_)
  refine lv_aload_n hx hb dL_law_195 rfl (lv_at hl 2 rfl) ?_
  refine wc_V (As := []) (rest := [.int r]) hx hb hml hown hts hG hV hZ (wlt_9 (rfl : wkd 70 = 9)) (q := (RX10, TX10, 31)) (wen_9 (rfl : wkd 70 = 9)) rfl (cX10_string_ok l E M1 f2) (cwV 0 hts gl_L_22 rfl rfl rfl cdX10_string ⟨Nat.le_of_ble_eq_true rfl, Nat.le_of_ble_eq_true rfl⟩) rfl hl.1 rfl (Nat.le_of_ble_eq_true rfl) dL_law_196 hf hW hS rfl (fun H locs hW hS => ?_)
  exact lv_icmp_eq (tgt := 829) hx hb dL_law_199 (by decide) (fun _ => kk _ H locs hI2 hW hS) (fun z => absurd rfl z)
set_option maxRecDepth 100000 in
set_option maxHeartbeats 4000000 in
theorem law_lamp (B : lB E p s m c b L xs) {i : Nat} (hi : i + 4 ≤ L) {M : wMem} {H : Heap} {locs : List Loc} {ls : Array Slot} (hI : wInv M) (hW : wH E M H) (hS : va_S (wA E) s.heap H locs) (hl : lv_has ls 4 [(0, .ref b), (1, .ref (wad E 0)), (2, .ref (wad E 70)), (3, .int (nI i))]) (hf : cells ≤ room_1.cells ∧ slots ≤ room_1.slots) (kk : ∀ (M' : wMem) (H' : Heap) (locs' : List Loc), wInv M' → wH E M' H' → va_S (wA E) s.heap H' locs' → W p l e room_1 s m #[Value.ref b] below meth c H' locs' cells slots Q (F0 m 829 ls [])) : W p l e room_1 s m #[Value.ref b] below meth c H locs cells slots Q (F0 m 204 ls []) := by
  obtain ⟨hx, hb, hml, hown, hts, hG, hV, hZ, hX, hbl, hbA, hL⟩ := id B
  obtain ⟨n0, L0, st0, hr0, t0, A0, R0, c0, p0, a0, o0, hJ⟩ := hI
  have h1 : vp_in (nI i + 1) L := by
    rw [show nI i + 1 = nI (i + 1) from nI_add i 1]
    exact vp_in_nI (by omega) (by omega)
  have h2 : vp_in (nI i + 2) L := by
    rw [show nI i + 2 = nI (i + 2) from nI_add i 2]
    exact vp_in_nI (by omega) (by omega)
  obtain ⟨r, M1, M2, f1, f2, hI2⟩ := k_lamp hJ (xs (nI i + 1).toNatClampNeg) (xs (nI i + 2).toNatClampNeg)
  replace f1 : fX9_lamp M (xs (nI i + 1).toNatClampNeg) (xs (nI i + 2).toNatClampNeg) = some (r, M1) := f1
  replace f2 : fX10_lamp M1 (xs (nI i + 1).toNatClampNeg) (xs (nI i + 2).toNatClampNeg) = some (r, M2) := f2
  refine lv_aload_n hx hb dL_law_204 rfl (lv_at hl 1 rfl) ?_
  refine lv_aload_n hx hb dL_law_205 rfl (lv_at hl 0 rfl) ?_
  refine lv_iload_n hx hb dL_law_206 rfl (lv_at hl 3 rfl) ?_
  refine lv_iconst (v := 1) hx hb dL_law_207 (by decide) ?_
  refine lv_iadd hx hb dL_law_208 ?_
  refine va_sld hx hb hX hbl hbA hS h1 dL_law_209 ?_
  refine lv_aload_n hx hb dL_law_210 rfl (lv_at hl 0 rfl) ?_
  refine lv_iload_n hx hb dL_law_211 rfl (lv_at hl 3 rfl) ?_
  refine lv_iconst (v := 2) hx hb dL_law_212 (by decide) ?_
  refine lv_iadd hx hb dL_law_213 ?_
  refine va_sld hx hb hX hbl hbA hS h2 dL_law_214 ?_
  refine wc_V (As := [.int (xs (nI i + 1).toNatClampNeg), .int (xs (nI i + 2).toNatClampNeg)]) (rest := []) hx hb hml hown hts hG hV hZ (wlt_8 (rfl : wkd 0 = 8)) (q := (RX9, TX9, 10)) (wen_8 (rfl : wkd 0 = 8)) rfl (cX9_lamp_ok l E M (xs (nI i + 1).toNatClampNeg) (xs (nI i + 2).toNatClampNeg) f1) (cwV 2 hts gl_L_23 rfl rfl rfl cdX9_lamp ⟨Nat.le_of_ble_eq_true rfl, Nat.le_of_ble_eq_true rfl⟩) rfl hl.1 rfl (Nat.le_of_ble_eq_true rfl) dL_law_215 hf hW hS rfl (fun H locs hW hS => ?_)
  refine lv_aload_n hx hb dL_law_218 rfl (lv_at hl 2 rfl) ?_
  refine lv_aload_n hx hb dL_law_219 rfl (lv_at hl 0 rfl) ?_
  refine lv_iload_n hx hb dL_law_220 rfl (lv_at hl 3 rfl) ?_
  refine lv_iconst (v := 1) hx hb dL_law_221 (by decide) ?_
  refine lv_iadd hx hb dL_law_222 ?_
  refine va_sld hx hb hX hbl hbA hS h1 dL_law_223 ?_
  refine lv_aload_n hx hb dL_law_224 rfl (lv_at hl 0 rfl) ?_
  refine lv_iload_n hx hb dL_law_225 rfl (lv_at hl 3 rfl) ?_
  refine lv_iconst (v := 2) hx hb dL_law_226 (by decide) ?_
  refine lv_iadd hx hb dL_law_227 ?_
  refine va_sld hx hb hX hbl hbA hS h2 dL_law_228 ?_
  refine wc_V (As := [.int (xs (nI i + 1).toNatClampNeg), .int (xs (nI i + 2).toNatClampNeg)]) (rest := [.int r]) hx hb hml hown hts hG hV hZ (wlt_9 (rfl : wkd 70 = 9)) (q := (RX10, TX10, 31)) (wen_9 (rfl : wkd 70 = 9)) rfl (cX10_lamp_ok l E M1 (xs (nI i + 1).toNatClampNeg) (xs (nI i + 2).toNatClampNeg) f2) (cwV 2 hts gl_L_27 rfl rfl rfl cdX10_lamp ⟨Nat.le_of_ble_eq_true rfl, Nat.le_of_ble_eq_true rfl⟩) rfl hl.1 rfl (Nat.le_of_ble_eq_true rfl) dL_law_229 hf hW hS rfl (fun H locs hW hS => ?_)
  exact lv_icmp_eq (tgt := 829) hx hb dL_law_232 (by decide) (fun _ => kk _ H locs hI2 hW hS) (fun z => absurd rfl z)
set_option maxRecDepth 100000 in
set_option maxHeartbeats 4000000 in
theorem law_set (B : lB E p s m c b L xs) {i : Nat} (hi : i + 4 ≤ L) {M : wMem} {H : Heap} {locs : List Loc} {ls : Array Slot} (hI : wInv M) (hW : wH E M H) (hS : va_S (wA E) s.heap H locs) (hl : lv_has ls 4 [(0, .ref b), (1, .ref (wad E 0)), (2, .ref (wad E 70)), (3, .int (nI i))]) (hf : cells ≤ room_1.cells ∧ slots ≤ room_1.slots) (kk : ∀ (M' : wMem) (H' : Heap) (locs' : List Loc), wInv M' → wH E M' H' → va_S (wA E) s.heap H' locs' → W p l e room_1 s m #[Value.ref b] below meth c H' locs' cells slots Q (F0 m 829 ls [])) : W p l e room_1 s m #[Value.ref b] below meth c H locs cells slots Q (F0 m 237 ls []) := by
  obtain ⟨hx, hb, hml, hown, hts, hG, hV, hZ, hX, hbl, hbA, hL⟩ := id B
  obtain ⟨n0, L0, st0, hr0, t0, A0, R0, c0, p0, a0, o0, hJ⟩ := hI
  have h1 : vp_in (nI i + 1) L := by
    rw [show nI i + 1 = nI (i + 1) from nI_add i 1]
    exact vp_in_nI (by omega) (by omega)
  have h2 : vp_in (nI i + 2) L := by
    rw [show nI i + 2 = nI (i + 2) from nI_add i 2]
    exact vp_in_nI (by omega) (by omega)
  obtain ⟨r, M1, M2, f1, f2, hI2⟩ := k_set hJ (xs (nI i + 1).toNatClampNeg) (xs (nI i + 2).toNatClampNeg)
  replace f1 : fX9_set M (xs (nI i + 1).toNatClampNeg) (xs (nI i + 2).toNatClampNeg) = some (r, M1) := f1
  replace f2 : fX10_set M1 (xs (nI i + 1).toNatClampNeg) (xs (nI i + 2).toNatClampNeg) = some (r, M2) := f2
  refine lv_aload_n hx hb dL_law_237 rfl (lv_at hl 1 rfl) ?_
  refine lv_aload_n hx hb dL_law_238 rfl (lv_at hl 0 rfl) ?_
  refine lv_iload_n hx hb dL_law_239 rfl (lv_at hl 3 rfl) ?_
  refine lv_iconst (v := 1) hx hb dL_law_240 (by decide) ?_
  refine lv_iadd hx hb dL_law_241 ?_
  refine va_sld hx hb hX hbl hbA hS h1 dL_law_242 ?_
  refine lv_aload_n hx hb dL_law_243 rfl (lv_at hl 0 rfl) ?_
  refine lv_iload_n hx hb dL_law_244 rfl (lv_at hl 3 rfl) ?_
  refine lv_iconst (v := 2) hx hb dL_law_245 (by decide) ?_
  refine lv_iadd hx hb dL_law_246 ?_
  refine va_sld hx hb hX hbl hbA hS h2 dL_law_247 ?_
  refine wc_V (As := [.int (xs (nI i + 1).toNatClampNeg), .int (xs (nI i + 2).toNatClampNeg)]) (rest := []) hx hb hml hown hts hG hV hZ (wlt_8 (rfl : wkd 0 = 8)) (q := (RX9, TX9, 10)) (wen_8 (rfl : wkd 0 = 8)) rfl (cX9_set_ok l E M (xs (nI i + 1).toNatClampNeg) (xs (nI i + 2).toNatClampNeg) f1) (cwV 2 hts gl_L_28 rfl rfl rfl cdX9_set ⟨Nat.le_of_ble_eq_true rfl, Nat.le_of_ble_eq_true rfl⟩) rfl hl.1 rfl (Nat.le_of_ble_eq_true rfl) dL_law_248 hf hW hS rfl (fun H locs hW hS => ?_)
  refine lv_aload_n hx hb dL_law_251 rfl (lv_at hl 2 rfl) ?_
  refine lv_aload_n hx hb dL_law_252 rfl (lv_at hl 0 rfl) ?_
  refine lv_iload_n hx hb dL_law_253 rfl (lv_at hl 3 rfl) ?_
  refine lv_iconst (v := 1) hx hb dL_law_254 (by decide) ?_
  refine lv_iadd hx hb dL_law_255 ?_
  refine va_sld hx hb hX hbl hbA hS h1 dL_law_256 ?_
  refine lv_aload_n hx hb dL_law_257 rfl (lv_at hl 0 rfl) ?_
  refine lv_iload_n hx hb dL_law_258 rfl (lv_at hl 3 rfl) ?_
  refine lv_iconst (v := 2) hx hb dL_law_259 (by decide) ?_
  refine lv_iadd hx hb dL_law_260 ?_
  refine va_sld hx hb hX hbl hbA hS h2 dL_law_261 ?_
  refine wc_V (As := [.int (xs (nI i + 1).toNatClampNeg), .int (xs (nI i + 2).toNatClampNeg)]) (rest := [.int r]) hx hb hml hown hts hG hV hZ (wlt_9 (rfl : wkd 70 = 9)) (q := (RX10, TX10, 31)) (wen_9 (rfl : wkd 70 = 9)) rfl (cX10_set_ok l E M1 (xs (nI i + 1).toNatClampNeg) (xs (nI i + 2).toNatClampNeg) f2) (cwV 2 hts gl_L_31 rfl rfl rfl cdX10_set ⟨Nat.le_of_ble_eq_true rfl, Nat.le_of_ble_eq_true rfl⟩) rfl hl.1 rfl (Nat.le_of_ble_eq_true rfl) dL_law_262 hf hW hS rfl (fun H locs hW hS => ?_)
  exact lv_icmp_eq (tgt := 829) hx hb dL_law_265 (by decide) (fun _ => kk _ H locs hI2 hW hS) (fun z => absurd rfl z)
set_option maxRecDepth 100000 in
set_option maxHeartbeats 4000000 in
theorem law_flow (B : lB E p s m c b L xs) {i : Nat} (hi : i + 4 ≤ L) {M : wMem} {H : Heap} {locs : List Loc} {ls : Array Slot} (hI : wInv M) (hW : wH E M H) (hS : va_S (wA E) s.heap H locs) (hl : lv_has ls 4 [(0, .ref b), (1, .ref (wad E 0)), (2, .ref (wad E 70)), (3, .int (nI i))]) (hf : cells ≤ room_1.cells ∧ slots ≤ room_1.slots) (kk : ∀ (M' : wMem) (H' : Heap) (locs' : List Loc), wInv M' → wH E M' H' → va_S (wA E) s.heap H' locs' → W p l e room_1 s m #[Value.ref b] below meth c H' locs' cells slots Q (F0 m 829 ls [])) : W p l e room_1 s m #[Value.ref b] below meth c H locs cells slots Q (F0 m 270 ls []) := by
  obtain ⟨hx, hb, hml, hown, hts, hG, hV, hZ, hX, hbl, hbA, hL⟩ := id B
  obtain ⟨n0, L0, st0, hr0, t0, A0, R0, c0, p0, a0, o0, hJ⟩ := hI
  obtain ⟨r, f1, f2⟩ := k_flow hJ
  replace f1 : fX9_flow M = some r := f1
  replace f2 : fX10_flow M = some r := f2
  have hI2 : wInv M := ⟨n0, L0, st0, hr0, t0, A0, R0, c0, p0, a0, o0, hJ⟩
  refine lv_aload_n hx hb dL_law_270 rfl (lv_at hl 1 rfl) ?_
  refine wc_V (As := []) (rest := []) hx hb hml hown hts hG hV hZ (wlt_8 (rfl : wkd 0 = 8)) (q := (RX9, TX9, 10)) (wen_8 (rfl : wkd 0 = 8)) rfl (cX9_flow_ok l E M f1) (cwV 0 hts gl_L_32 rfl rfl rfl cdX9_flow ⟨Nat.le_of_ble_eq_true rfl, Nat.le_of_ble_eq_true rfl⟩) rfl hl.1 rfl (Nat.le_of_ble_eq_true rfl) dL_law_271 hf hW hS rfl (fun H locs hW hS => ?_)
  refine lv_aload_n hx hb dL_law_274 rfl (lv_at hl 2 rfl) ?_
  refine wc_V (As := []) (rest := [.int r]) hx hb hml hown hts hG hV hZ (wlt_9 (rfl : wkd 70 = 9)) (q := (RX10, TX10, 31)) (wen_9 (rfl : wkd 70 = 9)) rfl (cX10_flow_ok l E M f2) (cwV 0 hts gl_L_35 rfl rfl rfl cdX10_flow ⟨Nat.le_of_ble_eq_true rfl, Nat.le_of_ble_eq_true rfl⟩) rfl hl.1 rfl (Nat.le_of_ble_eq_true rfl) dL_law_275 hf hW hS rfl (fun H locs hW hS => ?_)
  exact lv_icmp_eq (tgt := 829) hx hb dL_law_278 (by decide) (fun _ => kk _ H locs hI2 hW hS) (fun z => absurd rfl z)
set_option maxRecDepth 100000 in
set_option maxHeartbeats 4000000 in
theorem law_hour (B : lB E p s m c b L xs) {i : Nat} (hi : i + 4 ≤ L) {M : wMem} {H : Heap} {locs : List Loc} {ls : Array Slot} (hI : wInv M) (hW : wH E M H) (hS : va_S (wA E) s.heap H locs) (hl : lv_has ls 4 [(0, .ref b), (1, .ref (wad E 0)), (2, .ref (wad E 70)), (3, .int (nI i))]) (hf : cells ≤ room_1.cells ∧ slots ≤ room_1.slots) (kk : ∀ (M' : wMem) (H' : Heap) (locs' : List Loc), wInv M' → wH E M' H' → va_S (wA E) s.heap H' locs' → W p l e room_1 s m #[Value.ref b] below meth c H' locs' cells slots Q (F0 m 829 ls [])) : W p l e room_1 s m #[Value.ref b] below meth c H locs cells slots Q (F0 m 283 ls []) := by
  obtain ⟨hx, hb, hml, hown, hts, hG, hV, hZ, hX, hbl, hbA, hL⟩ := id B
  obtain ⟨n0, L0, st0, hr0, t0, A0, R0, c0, p0, a0, o0, hJ⟩ := hI
  obtain ⟨r, M1, M2, f1, f2, hI2⟩ := k_hour hJ
  replace f1 : fX9_hour M = some (r, M1) := f1
  replace f2 : fX10_hour M1 = some (r, M2) := f2
  refine lv_aload_n hx hb dL_law_283 rfl (lv_at hl 1 rfl) ?_
  refine wc_V (As := []) (rest := []) hx hb hml hown hts hG hV hZ (wlt_8 (rfl : wkd 0 = 8)) (q := (RX9, TX9, 10)) (wen_8 (rfl : wkd 0 = 8)) rfl (cX9_hour_ok l E M f1) (cwV 0 hts gl_L_36 rfl rfl rfl cdX9_hour ⟨Nat.le_of_ble_eq_true rfl, Nat.le_of_ble_eq_true rfl⟩) rfl hl.1 rfl (Nat.le_of_ble_eq_true rfl) dL_law_284 hf hW hS rfl (fun H locs hW hS => ?_)
  refine lv_aload_n hx hb dL_law_287 rfl (lv_at hl 2 rfl) ?_
  refine wc_V (As := []) (rest := [.int r]) hx hb hml hown hts hG hV hZ (wlt_9 (rfl : wkd 70 = 9)) (q := (RX10, TX10, 31)) (wen_9 (rfl : wkd 70 = 9)) rfl (cX10_hour_ok l E M1 f2) (cwV 0 hts gl_L_39 rfl rfl rfl cdX10_hour ⟨Nat.le_of_ble_eq_true rfl, Nat.le_of_ble_eq_true rfl⟩) rfl hl.1 rfl (Nat.le_of_ble_eq_true rfl) dL_law_288 hf hW hS rfl (fun H locs hW hS => ?_)
  exact lv_icmp_eq (tgt := 829) hx hb dL_law_291 (by decide) (fun _ => kk _ H locs hI2 hW hS) (fun z => absurd rfl z)
set_option maxRecDepth 100000 in
set_option maxHeartbeats 4000000 in
theorem law_swap (B : lB E p s m c b L xs) {i : Nat} (hi : i + 4 ≤ L) {M : wMem} {H : Heap} {locs : List Loc} {ls : Array Slot} (hI : wInv M) (hW : wH E M H) (hS : va_S (wA E) s.heap H locs) (hl : lv_has ls 4 [(0, .ref b), (1, .ref (wad E 0)), (2, .ref (wad E 70)), (3, .int (nI i))]) (hf : cells ≤ room_1.cells ∧ slots ≤ room_1.slots) (kk : ∀ (M' : wMem) (H' : Heap) (locs' : List Loc), wInv M' → wH E M' H' → va_S (wA E) s.heap H' locs' → W p l e room_1 s m #[Value.ref b] below meth c H' locs' cells slots Q (F0 m 829 ls [])) : W p l e room_1 s m #[Value.ref b] below meth c H locs cells slots Q (F0 m 296 ls []) := by
  obtain ⟨hx, hb, hml, hown, hts, hG, hV, hZ, hX, hbl, hbA, hL⟩ := id B
  obtain ⟨n0, L0, st0, hr0, t0, A0, R0, c0, p0, a0, o0, hJ⟩ := hI
  have h1 : vp_in (nI i + 1) L := by
    rw [show nI i + 1 = nI (i + 1) from nI_add i 1]
    exact vp_in_nI (by omega) (by omega)
  obtain ⟨r, M1, M2, f1, f2, hI2⟩ := k_swap hJ (xs (nI i + 1).toNatClampNeg)
  replace f1 : fX9_swap M (xs (nI i + 1).toNatClampNeg) = some (r, M1) := f1
  replace f2 : fX10_swap M1 (xs (nI i + 1).toNatClampNeg) = some (r, M2) := f2
  refine lv_aload_n hx hb dL_law_296 rfl (lv_at hl 1 rfl) ?_
  refine lv_aload_n hx hb dL_law_297 rfl (lv_at hl 0 rfl) ?_
  refine lv_iload_n hx hb dL_law_298 rfl (lv_at hl 3 rfl) ?_
  refine lv_iconst (v := 1) hx hb dL_law_299 (by decide) ?_
  refine lv_iadd hx hb dL_law_300 ?_
  refine va_sld hx hb hX hbl hbA hS h1 dL_law_301 ?_
  refine wc_V (As := [.int (xs (nI i + 1).toNatClampNeg)]) (rest := []) hx hb hml hown hts hG hV hZ (wlt_8 (rfl : wkd 0 = 8)) (q := (RX9, TX9, 10)) (wen_8 (rfl : wkd 0 = 8)) rfl (cX9_swap_ok l E M (xs (nI i + 1).toNatClampNeg) f1) (cwV 1 hts gl_L_40 rfl rfl rfl cdX9_swap ⟨Nat.le_of_ble_eq_true rfl, Nat.le_of_ble_eq_true rfl⟩) rfl hl.1 rfl (Nat.le_of_ble_eq_true rfl) dL_law_302 hf hW hS rfl (fun H locs hW hS => ?_)
  refine lv_aload_n hx hb dL_law_305 rfl (lv_at hl 2 rfl) ?_
  refine lv_aload_n hx hb dL_law_306 rfl (lv_at hl 0 rfl) ?_
  refine lv_iload_n hx hb dL_law_307 rfl (lv_at hl 3 rfl) ?_
  refine lv_iconst (v := 1) hx hb dL_law_308 (by decide) ?_
  refine lv_iadd hx hb dL_law_309 ?_
  refine va_sld hx hb hX hbl hbA hS h1 dL_law_310 ?_
  refine wc_V (As := [.int (xs (nI i + 1).toNatClampNeg)]) (rest := [.int r]) hx hb hml hown hts hG hV hZ (wlt_9 (rfl : wkd 70 = 9)) (q := (RX10, TX10, 31)) (wen_9 (rfl : wkd 70 = 9)) rfl (cX10_swap_ok l E M1 (xs (nI i + 1).toNatClampNeg) f2) (cwV 1 hts gl_L_43 rfl rfl rfl cdX10_swap ⟨Nat.le_of_ble_eq_true rfl, Nat.le_of_ble_eq_true rfl⟩) rfl hl.1 rfl (Nat.le_of_ble_eq_true rfl) dL_law_311 hf hW hS rfl (fun H locs hW hS => ?_)
  exact lv_icmp_eq (tgt := 829) hx hb dL_law_314 (by decide) (fun _ => kk _ H locs hI2 hW hS) (fun z => absurd rfl z)
set_option maxRecDepth 100000 in
set_option maxHeartbeats 4000000 in
theorem law_meter (B : lB E p s m c b L xs) {i : Nat} (hi : i + 4 ≤ L) {M : wMem} {H : Heap} {locs : List Loc} {ls : Array Slot} (hI : wInv M) (hW : wH E M H) (hS : va_S (wA E) s.heap H locs) (hl : lv_has ls 4 [(0, .ref b), (1, .ref (wad E 0)), (2, .ref (wad E 70)), (3, .int (nI i))]) (hf : cells ≤ room_1.cells ∧ slots ≤ room_1.slots) (kk : ∀ (M' : wMem) (H' : Heap) (locs' : List Loc), wInv M' → wH E M' H' → va_S (wA E) s.heap H' locs' → W p l e room_1 s m #[Value.ref b] below meth c H' locs' cells slots Q (F0 m 829 ls [])) : W p l e room_1 s m #[Value.ref b] below meth c H locs cells slots Q (F0 m 319 ls []) := by
  obtain ⟨hx, hb, hml, hown, hts, hG, hV, hZ, hX, hbl, hbA, hL⟩ := id B
  obtain ⟨n0, L0, st0, hr0, t0, A0, R0, c0, p0, a0, o0, hJ⟩ := hI
  have h1 : vp_in (nI i + 1) L := by
    rw [show nI i + 1 = nI (i + 1) from nI_add i 1]
    exact vp_in_nI (by omega) (by omega)
  have h2 : vp_in (nI i + 2) L := by
    rw [show nI i + 2 = nI (i + 2) from nI_add i 2]
    exact vp_in_nI (by omega) (by omega)
  obtain ⟨r, M1, M2, f1, f2, hI2⟩ := k_meter hJ (xs (nI i + 1).toNatClampNeg) (xs (nI i + 2).toNatClampNeg)
  replace f1 : fX9_meter M (xs (nI i + 1).toNatClampNeg) (xs (nI i + 2).toNatClampNeg) = some (r, M1) := f1
  replace f2 : fX10_meter M1 (xs (nI i + 1).toNatClampNeg) (xs (nI i + 2).toNatClampNeg) = some (r, M2) := f2
  refine lv_aload_n hx hb dL_law_319 rfl (lv_at hl 1 rfl) ?_
  refine lv_aload_n hx hb dL_law_320 rfl (lv_at hl 0 rfl) ?_
  refine lv_iload_n hx hb dL_law_321 rfl (lv_at hl 3 rfl) ?_
  refine lv_iconst (v := 1) hx hb dL_law_322 (by decide) ?_
  refine lv_iadd hx hb dL_law_323 ?_
  refine va_sld hx hb hX hbl hbA hS h1 dL_law_324 ?_
  refine lv_aload_n hx hb dL_law_325 rfl (lv_at hl 0 rfl) ?_
  refine lv_iload_n hx hb dL_law_326 rfl (lv_at hl 3 rfl) ?_
  refine lv_iconst (v := 2) hx hb dL_law_327 (by decide) ?_
  refine lv_iadd hx hb dL_law_328 ?_
  refine va_sld hx hb hX hbl hbA hS h2 dL_law_329 ?_
  refine wc_V (As := [.int (xs (nI i + 1).toNatClampNeg), .int (xs (nI i + 2).toNatClampNeg)]) (rest := []) hx hb hml hown hts hG hV hZ (wlt_8 (rfl : wkd 0 = 8)) (q := (RX9, TX9, 10)) (wen_8 (rfl : wkd 0 = 8)) rfl (cX9_meter_ok l E M (xs (nI i + 1).toNatClampNeg) (xs (nI i + 2).toNatClampNeg) f1) (cwV 2 hts gl_L_44 rfl rfl rfl cdX9_meter ⟨Nat.le_of_ble_eq_true rfl, Nat.le_of_ble_eq_true rfl⟩) rfl hl.1 rfl (Nat.le_of_ble_eq_true rfl) dL_law_330 hf hW hS rfl (fun H locs hW hS => ?_)
  refine lv_aload_n hx hb dL_law_333 rfl (lv_at hl 2 rfl) ?_
  refine lv_aload_n hx hb dL_law_334 rfl (lv_at hl 0 rfl) ?_
  refine lv_iload_n hx hb dL_law_335 rfl (lv_at hl 3 rfl) ?_
  refine lv_iconst (v := 1) hx hb dL_law_336 (by decide) ?_
  refine lv_iadd hx hb dL_law_337 ?_
  refine va_sld hx hb hX hbl hbA hS h1 dL_law_338 ?_
  refine lv_aload_n hx hb dL_law_339 rfl (lv_at hl 0 rfl) ?_
  refine lv_iload_n hx hb dL_law_340 rfl (lv_at hl 3 rfl) ?_
  refine lv_iconst (v := 2) hx hb dL_law_341 (by decide) ?_
  refine lv_iadd hx hb dL_law_342 ?_
  refine va_sld hx hb hX hbl hbA hS h2 dL_law_343 ?_
  refine wc_V (As := [.int (xs (nI i + 1).toNatClampNeg), .int (xs (nI i + 2).toNatClampNeg)]) (rest := [.int r]) hx hb hml hown hts hG hV hZ (wlt_9 (rfl : wkd 70 = 9)) (q := (RX10, TX10, 31)) (wen_9 (rfl : wkd 70 = 9)) rfl (cX10_meter_ok l E M1 (xs (nI i + 1).toNatClampNeg) (xs (nI i + 2).toNatClampNeg) f2) (cwV 2 hts gl_L_47 rfl rfl rfl cdX10_meter ⟨Nat.le_of_ble_eq_true rfl, Nat.le_of_ble_eq_true rfl⟩) rfl hl.1 rfl (Nat.le_of_ble_eq_true rfl) dL_law_344 hf hW hS rfl (fun H locs hW hS => ?_)
  exact lv_icmp_eq (tgt := 829) hx hb dL_law_347 (by decide) (fun _ => kk _ H locs hI2 hW hS) (fun z => absurd rfl z)
set_option maxRecDepth 100000 in
set_option maxHeartbeats 4000000 in
theorem law_finder (B : lB E p s m c b L xs) {i : Nat} (hi : i + 4 ≤ L) {M : wMem} {H : Heap} {locs : List Loc} {ls : Array Slot} (hI : wInv M) (hW : wH E M H) (hS : va_S (wA E) s.heap H locs) (hl : lv_has ls 4 [(0, .ref b), (1, .ref (wad E 0)), (2, .ref (wad E 70)), (3, .int (nI i))]) (hf : cells ≤ room_1.cells ∧ slots ≤ room_1.slots) (kk : ∀ (M' : wMem) (H' : Heap) (locs' : List Loc), wInv M' → wH E M' H' → va_S (wA E) s.heap H' locs' → W p l e room_1 s m #[Value.ref b] below meth c H' locs' cells slots Q (F0 m 829 ls [])) : W p l e room_1 s m #[Value.ref b] below meth c H locs cells slots Q (F0 m 352 ls []) := by
  obtain ⟨hx, hb, hml, hown, hts, hG, hV, hZ, hX, hbl, hbA, hL⟩ := id B
  obtain ⟨n0, L0, st0, hr0, t0, A0, R0, c0, p0, a0, o0, hJ⟩ := hI
  have h1 : vp_in (nI i + 1) L := by
    rw [show nI i + 1 = nI (i + 1) from nI_add i 1]
    exact vp_in_nI (by omega) (by omega)
  obtain ⟨r, M1, M2, f1, f2, hI2⟩ := k_finder hJ (xs (nI i + 1).toNatClampNeg)
  replace f1 : fX9_finder M (xs (nI i + 1).toNatClampNeg) = some (r, M1) := f1
  replace f2 : fX10_finder M1 (xs (nI i + 1).toNatClampNeg) = some (r, M2) := f2
  refine lv_aload_n hx hb dL_law_352 rfl (lv_at hl 1 rfl) ?_
  refine lv_aload_n hx hb dL_law_353 rfl (lv_at hl 0 rfl) ?_
  refine lv_iload_n hx hb dL_law_354 rfl (lv_at hl 3 rfl) ?_
  refine lv_iconst (v := 1) hx hb dL_law_355 (by decide) ?_
  refine lv_iadd hx hb dL_law_356 ?_
  refine va_sld hx hb hX hbl hbA hS h1 dL_law_357 ?_
  refine wc_V (As := [.int (xs (nI i + 1).toNatClampNeg)]) (rest := []) hx hb hml hown hts hG hV hZ (wlt_8 (rfl : wkd 0 = 8)) (q := (RX9, TX9, 10)) (wen_8 (rfl : wkd 0 = 8)) rfl (cX9_finder_ok l E M (xs (nI i + 1).toNatClampNeg) f1) (cwV 1 hts gl_L_48 rfl rfl rfl cdX9_finder ⟨Nat.le_of_ble_eq_true rfl, Nat.le_of_ble_eq_true rfl⟩) rfl hl.1 rfl (Nat.le_of_ble_eq_true rfl) dL_law_358 hf hW hS rfl (fun H locs hW hS => ?_)
  refine lv_aload_n hx hb dL_law_361 rfl (lv_at hl 2 rfl) ?_
  refine lv_aload_n hx hb dL_law_362 rfl (lv_at hl 0 rfl) ?_
  refine lv_iload_n hx hb dL_law_363 rfl (lv_at hl 3 rfl) ?_
  refine lv_iconst (v := 1) hx hb dL_law_364 (by decide) ?_
  refine lv_iadd hx hb dL_law_365 ?_
  refine va_sld hx hb hX hbl hbA hS h1 dL_law_366 ?_
  refine wc_V (As := [.int (xs (nI i + 1).toNatClampNeg)]) (rest := [.int r]) hx hb hml hown hts hG hV hZ (wlt_9 (rfl : wkd 70 = 9)) (q := (RX10, TX10, 31)) (wen_9 (rfl : wkd 70 = 9)) rfl (cX10_finder_ok l E M1 (xs (nI i + 1).toNatClampNeg) f2) (cwV 1 hts gl_L_51 rfl rfl rfl cdX10_finder ⟨Nat.le_of_ble_eq_true rfl, Nat.le_of_ble_eq_true rfl⟩) rfl hl.1 rfl (Nat.le_of_ble_eq_true rfl) dL_law_367 hf hW hS rfl (fun H locs hW hS => ?_)
  exact lv_icmp_eq (tgt := 829) hx hb dL_law_370 (by decide) (fun _ => kk _ H locs hI2 hW hS) (fun z => absurd rfl z)
set_option maxRecDepth 100000 in
set_option maxHeartbeats 4000000 in
theorem law_touch (B : lB E p s m c b L xs) {i : Nat} (hi : i + 4 ≤ L) {M : wMem} {H : Heap} {locs : List Loc} {ls : Array Slot} (hI : wInv M) (hW : wH E M H) (hS : va_S (wA E) s.heap H locs) (hl : lv_has ls 4 [(0, .ref b), (1, .ref (wad E 0)), (2, .ref (wad E 70)), (3, .int (nI i))]) (hf : cells ≤ room_1.cells ∧ slots ≤ room_1.slots) (kk : ∀ (M' : wMem) (H' : Heap) (locs' : List Loc), wInv M' → wH E M' H' → va_S (wA E) s.heap H' locs' → W p l e room_1 s m #[Value.ref b] below meth c H' locs' cells slots Q (F0 m 829 ls [])) : W p l e room_1 s m #[Value.ref b] below meth c H locs cells slots Q (F0 m 375 ls []) := by
  obtain ⟨hx, hb, hml, hown, hts, hG, hV, hZ, hX, hbl, hbA, hL⟩ := id B
  obtain ⟨n0, L0, st0, hr0, t0, A0, R0, c0, p0, a0, o0, hJ⟩ := hI
  have h1 : vp_in (nI i + 1) L := by
    rw [show nI i + 1 = nI (i + 1) from nI_add i 1]
    exact vp_in_nI (by omega) (by omega)
  obtain ⟨r, M1, M2, f1, f2, hI2⟩ := k_touch hJ (xs (nI i + 1).toNatClampNeg)
  replace f1 : fX9_touch M (xs (nI i + 1).toNatClampNeg) = some (r, M1) := f1
  replace f2 : fX10_touch M1 (xs (nI i + 1).toNatClampNeg) = some (r, M2) := f2
  refine lv_aload_n hx hb dL_law_375 rfl (lv_at hl 1 rfl) ?_
  refine lv_aload_n hx hb dL_law_376 rfl (lv_at hl 0 rfl) ?_
  refine lv_iload_n hx hb dL_law_377 rfl (lv_at hl 3 rfl) ?_
  refine lv_iconst (v := 1) hx hb dL_law_378 (by decide) ?_
  refine lv_iadd hx hb dL_law_379 ?_
  refine va_sld hx hb hX hbl hbA hS h1 dL_law_380 ?_
  refine wc_V (As := [.int (xs (nI i + 1).toNatClampNeg)]) (rest := []) hx hb hml hown hts hG hV hZ (wlt_8 (rfl : wkd 0 = 8)) (q := (RX9, TX9, 10)) (wen_8 (rfl : wkd 0 = 8)) rfl (cX9_touch_ok l E M (xs (nI i + 1).toNatClampNeg) f1) (cwV 1 hts gl_L_52 rfl rfl rfl cdX9_touch ⟨Nat.le_of_ble_eq_true rfl, Nat.le_of_ble_eq_true rfl⟩) rfl hl.1 rfl (Nat.le_of_ble_eq_true rfl) dL_law_381 hf hW hS rfl (fun H locs hW hS => ?_)
  refine lv_aload_n hx hb dL_law_384 rfl (lv_at hl 2 rfl) ?_
  refine lv_aload_n hx hb dL_law_385 rfl (lv_at hl 0 rfl) ?_
  refine lv_iload_n hx hb dL_law_386 rfl (lv_at hl 3 rfl) ?_
  refine lv_iconst (v := 1) hx hb dL_law_387 (by decide) ?_
  refine lv_iadd hx hb dL_law_388 ?_
  refine va_sld hx hb hX hbl hbA hS h1 dL_law_389 ?_
  refine wc_V (As := [.int (xs (nI i + 1).toNatClampNeg)]) (rest := [.int r]) hx hb hml hown hts hG hV hZ (wlt_9 (rfl : wkd 70 = 9)) (q := (RX10, TX10, 31)) (wen_9 (rfl : wkd 70 = 9)) rfl (cX10_touch_ok l E M1 (xs (nI i + 1).toNatClampNeg) f2) (cwV 1 hts gl_L_55 rfl rfl rfl cdX10_touch ⟨Nat.le_of_ble_eq_true rfl, Nat.le_of_ble_eq_true rfl⟩) rfl hl.1 rfl (Nat.le_of_ble_eq_true rfl) dL_law_390 hf hW hS rfl (fun H locs hW hS => ?_)
  exact lv_icmp_eq (tgt := 829) hx hb dL_law_393 (by decide) (fun _ => kk _ H locs hI2 hW hS) (fun z => absurd rfl z)
set_option maxRecDepth 100000 in
set_option maxHeartbeats 4000000 in
theorem law_find (B : lB E p s m c b L xs) {i : Nat} (hi : i + 4 ≤ L) {M : wMem} {H : Heap} {locs : List Loc} {ls : Array Slot} (hI : wInv M) (hW : wH E M H) (hS : va_S (wA E) s.heap H locs) (hl : lv_has ls 4 [(0, .ref b), (1, .ref (wad E 0)), (2, .ref (wad E 70)), (3, .int (nI i))]) (hf : cells ≤ room_1.cells ∧ slots ≤ room_1.slots) (kk : ∀ (M' : wMem) (H' : Heap) (locs' : List Loc), wInv M' → wH E M' H' → va_S (wA E) s.heap H' locs' → W p l e room_1 s m #[Value.ref b] below meth c H' locs' cells slots Q (F0 m 829 ls [])) : W p l e room_1 s m #[Value.ref b] below meth c H locs cells slots Q (F0 m 398 ls []) := by
  obtain ⟨hx, hb, hml, hown, hts, hG, hV, hZ, hX, hbl, hbA, hL⟩ := id B
  obtain ⟨n0, L0, st0, hr0, t0, A0, R0, c0, p0, a0, o0, hJ⟩ := hI
  have h1 : vp_in (nI i + 1) L := by
    rw [show nI i + 1 = nI (i + 1) from nI_add i 1]
    exact vp_in_nI (by omega) (by omega)
  have h2 : vp_in (nI i + 2) L := by
    rw [show nI i + 2 = nI (i + 2) from nI_add i 2]
    exact vp_in_nI (by omega) (by omega)
  have h3 : vp_in (nI i + 3) L := by
    rw [show nI i + 3 = nI (i + 3) from nI_add i 3]
    exact vp_in_nI (by omega) (by omega)
  obtain ⟨r, M1, M2, f1, f2, hI2⟩ := k_find hJ (xs (nI i + 1).toNatClampNeg) (xs (nI i + 2).toNatClampNeg) (xs (nI i + 3).toNatClampNeg)
  replace f1 : fX9_find M (xs (nI i + 1).toNatClampNeg) (xs (nI i + 2).toNatClampNeg) (xs (nI i + 3).toNatClampNeg) = some (r, M1) := f1
  replace f2 : fX10_find M1 (xs (nI i + 1).toNatClampNeg) (xs (nI i + 2).toNatClampNeg) (xs (nI i + 3).toNatClampNeg) = some (r, M2) := f2
  refine lv_aload_n hx hb dL_law_398 rfl (lv_at hl 1 rfl) ?_
  refine lv_aload_n hx hb dL_law_399 rfl (lv_at hl 0 rfl) ?_
  refine lv_iload_n hx hb dL_law_400 rfl (lv_at hl 3 rfl) ?_
  refine lv_iconst (v := 1) hx hb dL_law_401 (by decide) ?_
  refine lv_iadd hx hb dL_law_402 ?_
  refine va_sld hx hb hX hbl hbA hS h1 dL_law_403 ?_
  refine lv_aload_n hx hb dL_law_404 rfl (lv_at hl 0 rfl) ?_
  refine lv_iload_n hx hb dL_law_405 rfl (lv_at hl 3 rfl) ?_
  refine lv_iconst (v := 2) hx hb dL_law_406 (by decide) ?_
  refine lv_iadd hx hb dL_law_407 ?_
  refine va_sld hx hb hX hbl hbA hS h2 dL_law_408 ?_
  refine lv_aload_n hx hb dL_law_409 rfl (lv_at hl 0 rfl) ?_
  refine lv_iload_n hx hb dL_law_410 rfl (lv_at hl 3 rfl) ?_
  refine lv_iconst (v := 3) hx hb dL_law_411 (by decide) ?_
  refine lv_iadd hx hb dL_law_412 ?_
  refine va_sld hx hb hX hbl hbA hS h3 dL_law_413 ?_
  refine wc_V (As := [.int (xs (nI i + 1).toNatClampNeg), .int (xs (nI i + 2).toNatClampNeg), .int (xs (nI i + 3).toNatClampNeg)]) (rest := []) hx hb hml hown hts hG hV hZ (wlt_8 (rfl : wkd 0 = 8)) (q := (RX9, TX9, 10)) (wen_8 (rfl : wkd 0 = 8)) rfl (cX9_find_ok l E M (xs (nI i + 1).toNatClampNeg) (xs (nI i + 2).toNatClampNeg) (xs (nI i + 3).toNatClampNeg) f1) (cwV 3 hts gl_L_56 rfl rfl rfl cdX9_find ⟨Nat.le_of_ble_eq_true rfl, Nat.le_of_ble_eq_true rfl⟩) rfl hl.1 rfl (Nat.le_of_ble_eq_true rfl) dL_law_414 hf hW hS rfl (fun H locs hW hS => ?_)
  refine lv_aload_n hx hb dL_law_417 rfl (lv_at hl 2 rfl) ?_
  refine lv_aload_n hx hb dL_law_418 rfl (lv_at hl 0 rfl) ?_
  refine lv_iload_n hx hb dL_law_419 rfl (lv_at hl 3 rfl) ?_
  refine lv_iconst (v := 1) hx hb dL_law_420 (by decide) ?_
  refine lv_iadd hx hb dL_law_421 ?_
  refine va_sld hx hb hX hbl hbA hS h1 dL_law_422 ?_
  refine lv_aload_n hx hb dL_law_423 rfl (lv_at hl 0 rfl) ?_
  refine lv_iload_n hx hb dL_law_424 rfl (lv_at hl 3 rfl) ?_
  refine lv_iconst (v := 2) hx hb dL_law_425 (by decide) ?_
  refine lv_iadd hx hb dL_law_426 ?_
  refine va_sld hx hb hX hbl hbA hS h2 dL_law_427 ?_
  refine lv_aload_n hx hb dL_law_428 rfl (lv_at hl 0 rfl) ?_
  refine lv_iload_n hx hb dL_law_429 rfl (lv_at hl 3 rfl) ?_
  refine lv_iconst (v := 3) hx hb dL_law_430 (by decide) ?_
  refine lv_iadd hx hb dL_law_431 ?_
  refine va_sld hx hb hX hbl hbA hS h3 dL_law_432 ?_
  refine wc_V (As := [.int (xs (nI i + 1).toNatClampNeg), .int (xs (nI i + 2).toNatClampNeg), .int (xs (nI i + 3).toNatClampNeg)]) (rest := [.int r]) hx hb hml hown hts hG hV hZ (wlt_9 (rfl : wkd 70 = 9)) (q := (RX10, TX10, 31)) (wen_9 (rfl : wkd 70 = 9)) rfl (cX10_find_ok l E M1 (xs (nI i + 1).toNatClampNeg) (xs (nI i + 2).toNatClampNeg) (xs (nI i + 3).toNatClampNeg) f2) (cwV 3 hts gl_L_60 rfl rfl rfl cdX10_find ⟨Nat.le_of_ble_eq_true rfl, Nat.le_of_ble_eq_true rfl⟩) rfl hl.1 rfl (Nat.le_of_ble_eq_true rfl) dL_law_433 hf hW hS rfl (fun H locs hW hS => ?_)
  exact lv_icmp_eq (tgt := 829) hx hb dL_law_436 (by decide) (fun _ => kk _ H locs hI2 hW hS) (fun z => absurd rfl z)
set_option maxRecDepth 100000 in
set_option maxHeartbeats 4000000 in
theorem law_look (B : lB E p s m c b L xs) {i : Nat} (hi : i + 4 ≤ L) {M : wMem} {H : Heap} {locs : List Loc} {ls : Array Slot} (hI : wInv M) (hW : wH E M H) (hS : va_S (wA E) s.heap H locs) (hl : lv_has ls 4 [(0, .ref b), (1, .ref (wad E 0)), (2, .ref (wad E 70)), (3, .int (nI i))]) (hf : cells ≤ room_1.cells ∧ slots ≤ room_1.slots) (kk : ∀ (M' : wMem) (H' : Heap) (locs' : List Loc), wInv M' → wH E M' H' → va_S (wA E) s.heap H' locs' → W p l e room_1 s m #[Value.ref b] below meth c H' locs' cells slots Q (F0 m 829 ls [])) : W p l e room_1 s m #[Value.ref b] below meth c H locs cells slots Q (F0 m 441 ls []) := by
  obtain ⟨hx, hb, hml, hown, hts, hG, hV, hZ, hX, hbl, hbA, hL⟩ := id B
  obtain ⟨n0, L0, st0, hr0, t0, A0, R0, c0, p0, a0, o0, hJ⟩ := hI
  have h1 : vp_in (nI i + 1) L := by
    rw [show nI i + 1 = nI (i + 1) from nI_add i 1]
    exact vp_in_nI (by omega) (by omega)
  have h2 : vp_in (nI i + 2) L := by
    rw [show nI i + 2 = nI (i + 2) from nI_add i 2]
    exact vp_in_nI (by omega) (by omega)
  have h3 : vp_in (nI i + 3) L := by
    rw [show nI i + 3 = nI (i + 3) from nI_add i 3]
    exact vp_in_nI (by omega) (by omega)
  obtain ⟨r, M1, M2, f1, f2, hI2⟩ := k_look hJ (xs (nI i + 1).toNatClampNeg) (xs (nI i + 2).toNatClampNeg) (xs (nI i + 3).toNatClampNeg)
  replace f1 : fX9_look M (xs (nI i + 1).toNatClampNeg) (xs (nI i + 2).toNatClampNeg) (xs (nI i + 3).toNatClampNeg) = some (r, M1) := f1
  replace f2 : fX10_look M1 (xs (nI i + 1).toNatClampNeg) (xs (nI i + 2).toNatClampNeg) (xs (nI i + 3).toNatClampNeg) = some (r, M2) := f2
  refine lv_aload_n hx hb dL_law_441 rfl (lv_at hl 1 rfl) ?_
  refine lv_aload_n hx hb dL_law_442 rfl (lv_at hl 0 rfl) ?_
  refine lv_iload_n hx hb dL_law_443 rfl (lv_at hl 3 rfl) ?_
  refine lv_iconst (v := 1) hx hb dL_law_444 (by decide) ?_
  refine lv_iadd hx hb dL_law_445 ?_
  refine va_sld hx hb hX hbl hbA hS h1 dL_law_446 ?_
  refine lv_aload_n hx hb dL_law_447 rfl (lv_at hl 0 rfl) ?_
  refine lv_iload_n hx hb dL_law_448 rfl (lv_at hl 3 rfl) ?_
  refine lv_iconst (v := 2) hx hb dL_law_449 (by decide) ?_
  refine lv_iadd hx hb dL_law_450 ?_
  refine va_sld hx hb hX hbl hbA hS h2 dL_law_451 ?_
  refine lv_aload_n hx hb dL_law_452 rfl (lv_at hl 0 rfl) ?_
  refine lv_iload_n hx hb dL_law_453 rfl (lv_at hl 3 rfl) ?_
  refine lv_iconst (v := 3) hx hb dL_law_454 (by decide) ?_
  refine lv_iadd hx hb dL_law_455 ?_
  refine va_sld hx hb hX hbl hbA hS h3 dL_law_456 ?_
  refine wc_V (As := [.int (xs (nI i + 1).toNatClampNeg), .int (xs (nI i + 2).toNatClampNeg), .int (xs (nI i + 3).toNatClampNeg)]) (rest := []) hx hb hml hown hts hG hV hZ (wlt_8 (rfl : wkd 0 = 8)) (q := (RX9, TX9, 10)) (wen_8 (rfl : wkd 0 = 8)) rfl (cX9_look_ok l E M (xs (nI i + 1).toNatClampNeg) (xs (nI i + 2).toNatClampNeg) (xs (nI i + 3).toNatClampNeg) f1) (cwV 3 hts gl_L_61 rfl rfl rfl cdX9_look ⟨Nat.le_of_ble_eq_true rfl, Nat.le_of_ble_eq_true rfl⟩) rfl hl.1 rfl (Nat.le_of_ble_eq_true rfl) dL_law_457 hf hW hS rfl (fun H locs hW hS => ?_)
  refine lv_aload_n hx hb dL_law_460 rfl (lv_at hl 2 rfl) ?_
  refine lv_aload_n hx hb dL_law_461 rfl (lv_at hl 0 rfl) ?_
  refine lv_iload_n hx hb dL_law_462 rfl (lv_at hl 3 rfl) ?_
  refine lv_iconst (v := 1) hx hb dL_law_463 (by decide) ?_
  refine lv_iadd hx hb dL_law_464 ?_
  refine va_sld hx hb hX hbl hbA hS h1 dL_law_465 ?_
  refine lv_aload_n hx hb dL_law_466 rfl (lv_at hl 0 rfl) ?_
  refine lv_iload_n hx hb dL_law_467 rfl (lv_at hl 3 rfl) ?_
  refine lv_iconst (v := 2) hx hb dL_law_468 (by decide) ?_
  refine lv_iadd hx hb dL_law_469 ?_
  refine va_sld hx hb hX hbl hbA hS h2 dL_law_470 ?_
  refine lv_aload_n hx hb dL_law_471 rfl (lv_at hl 0 rfl) ?_
  refine lv_iload_n hx hb dL_law_472 rfl (lv_at hl 3 rfl) ?_
  refine lv_iconst (v := 3) hx hb dL_law_473 (by decide) ?_
  refine lv_iadd hx hb dL_law_474 ?_
  refine va_sld hx hb hX hbl hbA hS h3 dL_law_475 ?_
  refine wc_V (As := [.int (xs (nI i + 1).toNatClampNeg), .int (xs (nI i + 2).toNatClampNeg), .int (xs (nI i + 3).toNatClampNeg)]) (rest := [.int r]) hx hb hml hown hts hG hV hZ (wlt_9 (rfl : wkd 70 = 9)) (q := (RX10, TX10, 31)) (wen_9 (rfl : wkd 70 = 9)) rfl (cX10_look_ok l E M1 (xs (nI i + 1).toNatClampNeg) (xs (nI i + 2).toNatClampNeg) (xs (nI i + 3).toNatClampNeg) f2) (cwV 3 hts gl_L_64 rfl rfl rfl cdX10_look ⟨Nat.le_of_ble_eq_true rfl, Nat.le_of_ble_eq_true rfl⟩) rfl hl.1 rfl (Nat.le_of_ble_eq_true rfl) dL_law_476 hf hW hS rfl (fun H locs hW hS => ?_)
  exact lv_icmp_eq (tgt := 829) hx hb dL_law_479 (by decide) (fun _ => kk _ H locs hI2 hW hS) (fun z => absurd rfl z)
set_option maxRecDepth 100000 in
set_option maxHeartbeats 4000000 in
theorem law_order (B : lB E p s m c b L xs) {i : Nat} (hi : i + 4 ≤ L) {M : wMem} {H : Heap} {locs : List Loc} {ls : Array Slot} (hI : wInv M) (hW : wH E M H) (hS : va_S (wA E) s.heap H locs) (hl : lv_has ls 4 [(0, .ref b), (1, .ref (wad E 0)), (2, .ref (wad E 70)), (3, .int (nI i))]) (hf : cells ≤ room_1.cells ∧ slots ≤ room_1.slots) (kk : ∀ (M' : wMem) (H' : Heap) (locs' : List Loc), wInv M' → wH E M' H' → va_S (wA E) s.heap H' locs' → W p l e room_1 s m #[Value.ref b] below meth c H' locs' cells slots Q (F0 m 829 ls [])) : W p l e room_1 s m #[Value.ref b] below meth c H locs cells slots Q (F0 m 484 ls []) := by
  obtain ⟨hx, hb, hml, hown, hts, hG, hV, hZ, hX, hbl, hbA, hL⟩ := id B
  obtain ⟨n0, L0, st0, hr0, t0, A0, R0, c0, p0, a0, o0, hJ⟩ := hI
  have h1 : vp_in (nI i + 1) L := by
    rw [show nI i + 1 = nI (i + 1) from nI_add i 1]
    exact vp_in_nI (by omega) (by omega)
  obtain ⟨r, M1, M2, f1, f2, hI2⟩ := k_order hJ (xs (nI i + 1).toNatClampNeg)
  replace f1 : fX9_order M (xs (nI i + 1).toNatClampNeg) = some (r, M1) := f1
  replace f2 : fX10_order M1 (xs (nI i + 1).toNatClampNeg) = some (r, M2) := f2
  refine lv_aload_n hx hb dL_law_484 rfl (lv_at hl 1 rfl) ?_
  refine lv_aload_n hx hb dL_law_485 rfl (lv_at hl 0 rfl) ?_
  refine lv_iload_n hx hb dL_law_486 rfl (lv_at hl 3 rfl) ?_
  refine lv_iconst (v := 1) hx hb dL_law_487 (by decide) ?_
  refine lv_iadd hx hb dL_law_488 ?_
  refine va_sld hx hb hX hbl hbA hS h1 dL_law_489 ?_
  refine wc_V (As := [.int (xs (nI i + 1).toNatClampNeg)]) (rest := []) hx hb hml hown hts hG hV hZ (wlt_8 (rfl : wkd 0 = 8)) (q := (RX9, TX9, 10)) (wen_8 (rfl : wkd 0 = 8)) rfl (cX9_order_ok l E M (xs (nI i + 1).toNatClampNeg) f1) (cwV 1 hts gl_L_65 rfl rfl rfl cdX9_order ⟨Nat.le_of_ble_eq_true rfl, Nat.le_of_ble_eq_true rfl⟩) rfl hl.1 rfl (Nat.le_of_ble_eq_true rfl) dL_law_490 hf hW hS rfl (fun H locs hW hS => ?_)
  refine lv_aload_n hx hb dL_law_493 rfl (lv_at hl 2 rfl) ?_
  refine lv_aload_n hx hb dL_law_494 rfl (lv_at hl 0 rfl) ?_
  refine lv_iload_n hx hb dL_law_495 rfl (lv_at hl 3 rfl) ?_
  refine lv_iconst (v := 1) hx hb dL_law_496 (by decide) ?_
  refine lv_iadd hx hb dL_law_497 ?_
  refine va_sld hx hb hX hbl hbA hS h1 dL_law_498 ?_
  refine wc_V (As := [.int (xs (nI i + 1).toNatClampNeg)]) (rest := [.int r]) hx hb hml hown hts hG hV hZ (wlt_9 (rfl : wkd 70 = 9)) (q := (RX10, TX10, 31)) (wen_9 (rfl : wkd 70 = 9)) rfl (cX10_order_ok l E M1 (xs (nI i + 1).toNatClampNeg) f2) (cwV 1 hts gl_L_68 rfl rfl rfl cdX10_order ⟨Nat.le_of_ble_eq_true rfl, Nat.le_of_ble_eq_true rfl⟩) rfl hl.1 rfl (Nat.le_of_ble_eq_true rfl) dL_law_499 hf hW hS rfl (fun H locs hW hS => ?_)
  exact lv_icmp_eq (tgt := 829) hx hb dL_law_502 (by decide) (fun _ => kk _ H locs hI2 hW hS) (fun z => absurd rfl z)
set_option maxRecDepth 100000 in
set_option maxHeartbeats 4000000 in
theorem law_orderSum (B : lB E p s m c b L xs) {i : Nat} (hi : i + 4 ≤ L) {M : wMem} {H : Heap} {locs : List Loc} {ls : Array Slot} (hI : wInv M) (hW : wH E M H) (hS : va_S (wA E) s.heap H locs) (hl : lv_has ls 4 [(0, .ref b), (1, .ref (wad E 0)), (2, .ref (wad E 70)), (3, .int (nI i))]) (hf : cells ≤ room_1.cells ∧ slots ≤ room_1.slots) (kk : ∀ (M' : wMem) (H' : Heap) (locs' : List Loc), wInv M' → wH E M' H' → va_S (wA E) s.heap H' locs' → W p l e room_1 s m #[Value.ref b] below meth c H' locs' cells slots Q (F0 m 829 ls [])) : W p l e room_1 s m #[Value.ref b] below meth c H locs cells slots Q (F0 m 507 ls []) := by
  obtain ⟨hx, hb, hml, hown, hts, hG, hV, hZ, hX, hbl, hbA, hL⟩ := id B
  obtain ⟨n0, L0, st0, hr0, t0, A0, R0, c0, p0, a0, o0, hJ⟩ := hI
  obtain ⟨r, M1, M2, f1, f2, hI2⟩ := k_orderSum hJ
  replace f1 : fX9_orderSum M = some (r, M1) := f1
  replace f2 : fX10_orderSum M1 = some (r, M2) := f2
  refine lv_aload_n hx hb dL_law_507 rfl (lv_at hl 1 rfl) ?_
  refine wc_V (As := []) (rest := []) hx hb hml hown hts hG hV hZ (wlt_8 (rfl : wkd 0 = 8)) (q := (RX9, TX9, 10)) (wen_8 (rfl : wkd 0 = 8)) rfl (cX9_orderSum_ok l E M f1) (cwV 0 hts gl_L_69 rfl rfl rfl cdX9_orderSum ⟨Nat.le_of_ble_eq_true rfl, Nat.le_of_ble_eq_true rfl⟩) rfl hl.1 rfl (Nat.le_of_ble_eq_true rfl) dL_law_508 hf hW hS rfl (fun H locs hW hS => ?_)
  refine lv_aload_n hx hb dL_law_511 rfl (lv_at hl 2 rfl) ?_
  refine wc_V (As := []) (rest := [.int r]) hx hb hml hown hts hG hV hZ (wlt_9 (rfl : wkd 70 = 9)) (q := (RX10, TX10, 31)) (wen_9 (rfl : wkd 70 = 9)) rfl (cX10_orderSum_ok l E M1 f2) (cwV 0 hts gl_L_72 rfl rfl rfl cdX10_orderSum ⟨Nat.le_of_ble_eq_true rfl, Nat.le_of_ble_eq_true rfl⟩) rfl hl.1 rfl (Nat.le_of_ble_eq_true rfl) dL_law_512 hf hW hS rfl (fun H locs hW hS => ?_)
  exact lv_icmp_eq (tgt := 829) hx hb dL_law_515 (by decide) (fun _ => kk _ H locs hI2 hW hS) (fun z => absurd rfl z)
set_option maxRecDepth 100000 in
set_option maxHeartbeats 4000000 in
theorem law_told (B : lB E p s m c b L xs) {i : Nat} (hi : i + 4 ≤ L) {M : wMem} {H : Heap} {locs : List Loc} {ls : Array Slot} (hI : wInv M) (hW : wH E M H) (hS : va_S (wA E) s.heap H locs) (hl : lv_has ls 4 [(0, .ref b), (1, .ref (wad E 0)), (2, .ref (wad E 70)), (3, .int (nI i))]) (hf : cells ≤ room_1.cells ∧ slots ≤ room_1.slots) (kk : ∀ (M' : wMem) (H' : Heap) (locs' : List Loc), wInv M' → wH E M' H' → va_S (wA E) s.heap H' locs' → W p l e room_1 s m #[Value.ref b] below meth c H' locs' cells slots Q (F0 m 829 ls [])) : W p l e room_1 s m #[Value.ref b] below meth c H locs cells slots Q (F0 m 520 ls []) := by
  obtain ⟨hx, hb, hml, hown, hts, hG, hV, hZ, hX, hbl, hbA, hL⟩ := id B
  obtain ⟨n0, L0, st0, hr0, t0, A0, R0, c0, p0, a0, o0, hJ⟩ := hI
  have h1 : vp_in (nI i + 1) L := by
    rw [show nI i + 1 = nI (i + 1) from nI_add i 1]
    exact vp_in_nI (by omega) (by omega)
  have h2 : vp_in (nI i + 2) L := by
    rw [show nI i + 2 = nI (i + 2) from nI_add i 2]
    exact vp_in_nI (by omega) (by omega)
  obtain ⟨r, M1, M2, f1, f2, hI2⟩ := k_told hJ (xs (nI i + 1).toNatClampNeg) (xs (nI i + 2).toNatClampNeg)
  replace f1 : fX9_told M (xs (nI i + 1).toNatClampNeg) (xs (nI i + 2).toNatClampNeg) = some (r, M1) := f1
  replace f2 : fX10_told M1 (xs (nI i + 1).toNatClampNeg) (xs (nI i + 2).toNatClampNeg) = some (r, M2) := f2
  refine lv_aload_n hx hb dL_law_520 rfl (lv_at hl 1 rfl) ?_
  refine lv_aload_n hx hb dL_law_521 rfl (lv_at hl 0 rfl) ?_
  refine lv_iload_n hx hb dL_law_522 rfl (lv_at hl 3 rfl) ?_
  refine lv_iconst (v := 1) hx hb dL_law_523 (by decide) ?_
  refine lv_iadd hx hb dL_law_524 ?_
  refine va_sld hx hb hX hbl hbA hS h1 dL_law_525 ?_
  refine lv_aload_n hx hb dL_law_526 rfl (lv_at hl 0 rfl) ?_
  refine lv_iload_n hx hb dL_law_527 rfl (lv_at hl 3 rfl) ?_
  refine lv_iconst (v := 2) hx hb dL_law_528 (by decide) ?_
  refine lv_iadd hx hb dL_law_529 ?_
  refine va_sld hx hb hX hbl hbA hS h2 dL_law_530 ?_
  refine wc_V (As := [.int (xs (nI i + 1).toNatClampNeg), .int (xs (nI i + 2).toNatClampNeg)]) (rest := []) hx hb hml hown hts hG hV hZ (wlt_8 (rfl : wkd 0 = 8)) (q := (RX9, TX9, 10)) (wen_8 (rfl : wkd 0 = 8)) rfl (cX9_told_ok l E M (xs (nI i + 1).toNatClampNeg) (xs (nI i + 2).toNatClampNeg) f1) (cwV 2 hts gl_L_73 rfl rfl rfl cdX9_told ⟨Nat.le_of_ble_eq_true rfl, Nat.le_of_ble_eq_true rfl⟩) rfl hl.1 rfl (Nat.le_of_ble_eq_true rfl) dL_law_531 hf hW hS rfl (fun H locs hW hS => ?_)
  refine lv_aload_n hx hb dL_law_534 rfl (lv_at hl 2 rfl) ?_
  refine lv_aload_n hx hb dL_law_535 rfl (lv_at hl 0 rfl) ?_
  refine lv_iload_n hx hb dL_law_536 rfl (lv_at hl 3 rfl) ?_
  refine lv_iconst (v := 1) hx hb dL_law_537 (by decide) ?_
  refine lv_iadd hx hb dL_law_538 ?_
  refine va_sld hx hb hX hbl hbA hS h1 dL_law_539 ?_
  refine lv_aload_n hx hb dL_law_540 rfl (lv_at hl 0 rfl) ?_
  refine lv_iload_n hx hb dL_law_541 rfl (lv_at hl 3 rfl) ?_
  refine lv_iconst (v := 2) hx hb dL_law_542 (by decide) ?_
  refine lv_iadd hx hb dL_law_543 ?_
  refine va_sld hx hb hX hbl hbA hS h2 dL_law_544 ?_
  refine wc_V (As := [.int (xs (nI i + 1).toNatClampNeg), .int (xs (nI i + 2).toNatClampNeg)]) (rest := [.int r]) hx hb hml hown hts hG hV hZ (wlt_9 (rfl : wkd 70 = 9)) (q := (RX10, TX10, 31)) (wen_9 (rfl : wkd 70 = 9)) rfl (cX10_told_ok l E M1 (xs (nI i + 1).toNatClampNeg) (xs (nI i + 2).toNatClampNeg) f2) (cwV 2 hts gl_L_76 rfl rfl rfl cdX10_told ⟨Nat.le_of_ble_eq_true rfl, Nat.le_of_ble_eq_true rfl⟩) rfl hl.1 rfl (Nat.le_of_ble_eq_true rfl) dL_law_545 hf hW hS rfl (fun H locs hW hS => ?_)
  exact lv_icmp_eq (tgt := 829) hx hb dL_law_548 (by decide) (fun _ => kk _ H locs hI2 hW hS) (fun z => absurd rfl z)
set_option maxRecDepth 100000 in
set_option maxHeartbeats 4000000 in
theorem law_openTo (B : lB E p s m c b L xs) {i : Nat} (hi : i + 4 ≤ L) {M : wMem} {H : Heap} {locs : List Loc} {ls : Array Slot} (hI : wInv M) (hW : wH E M H) (hS : va_S (wA E) s.heap H locs) (hl : lv_has ls 4 [(0, .ref b), (1, .ref (wad E 0)), (2, .ref (wad E 70)), (3, .int (nI i))]) (hf : cells ≤ room_1.cells ∧ slots ≤ room_1.slots) (kk : ∀ (M' : wMem) (H' : Heap) (locs' : List Loc), wInv M' → wH E M' H' → va_S (wA E) s.heap H' locs' → W p l e room_1 s m #[Value.ref b] below meth c H' locs' cells slots Q (F0 m 829 ls [])) : W p l e room_1 s m #[Value.ref b] below meth c H locs cells slots Q (F0 m 553 ls []) := by
  obtain ⟨hx, hb, hml, hown, hts, hG, hV, hZ, hX, hbl, hbA, hL⟩ := id B
  obtain ⟨n0, L0, st0, hr0, t0, A0, R0, c0, p0, a0, o0, hJ⟩ := hI
  obtain ⟨r, f1, f2⟩ := k_openTo hJ
  replace f1 : fX9_openTo M = some r := f1
  replace f2 : fX10_openTo M = some r := f2
  have hI2 : wInv M := ⟨n0, L0, st0, hr0, t0, A0, R0, c0, p0, a0, o0, hJ⟩
  refine lv_aload_n hx hb dL_law_553 rfl (lv_at hl 1 rfl) ?_
  refine wc_V (As := []) (rest := []) hx hb hml hown hts hG hV hZ (wlt_8 (rfl : wkd 0 = 8)) (q := (RX9, TX9, 10)) (wen_8 (rfl : wkd 0 = 8)) rfl (cX9_openTo_ok l E M f1) (cwV 0 hts gl_L_77 rfl rfl rfl cdX9_openTo ⟨Nat.le_of_ble_eq_true rfl, Nat.le_of_ble_eq_true rfl⟩) rfl hl.1 rfl (Nat.le_of_ble_eq_true rfl) dL_law_554 hf hW hS rfl (fun H locs hW hS => ?_)
  refine lv_aload_n hx hb dL_law_557 rfl (lv_at hl 2 rfl) ?_
  refine wc_V (As := []) (rest := [.int r]) hx hb hml hown hts hG hV hZ (wlt_9 (rfl : wkd 70 = 9)) (q := (RX10, TX10, 31)) (wen_9 (rfl : wkd 70 = 9)) rfl (cX10_openTo_ok l E M f2) (cwV 0 hts gl_L_80 rfl rfl rfl cdX10_openTo ⟨Nat.le_of_ble_eq_true rfl, Nat.le_of_ble_eq_true rfl⟩) rfl hl.1 rfl (Nat.le_of_ble_eq_true rfl) dL_law_558 hf hW hS rfl (fun H locs hW hS => ?_)
  exact lv_icmp_eq (tgt := 829) hx hb dL_law_561 (by decide) (fun _ => kk _ H locs hI2 hW hS) (fun z => absurd rfl z)
set_option maxRecDepth 100000 in
set_option maxHeartbeats 4000000 in
theorem law_judge (B : lB E p s m c b L xs) {i : Nat} (hi : i + 4 ≤ L) {M : wMem} {H : Heap} {locs : List Loc} {ls : Array Slot} (hI : wInv M) (hW : wH E M H) (hS : va_S (wA E) s.heap H locs) (hl : lv_has ls 4 [(0, .ref b), (1, .ref (wad E 0)), (2, .ref (wad E 70)), (3, .int (nI i))]) (hf : cells ≤ room_1.cells ∧ slots ≤ room_1.slots) (kk : ∀ (M' : wMem) (H' : Heap) (locs' : List Loc), wInv M' → wH E M' H' → va_S (wA E) s.heap H' locs' → W p l e room_1 s m #[Value.ref b] below meth c H' locs' cells slots Q (F0 m 829 ls [])) : W p l e room_1 s m #[Value.ref b] below meth c H locs cells slots Q (F0 m 566 ls []) := by
  obtain ⟨hx, hb, hml, hown, hts, hG, hV, hZ, hX, hbl, hbA, hL⟩ := id B
  obtain ⟨n0, L0, st0, hr0, t0, A0, R0, c0, p0, a0, o0, hJ⟩ := hI
  obtain ⟨r, M1, M2, f1, f2, hI2⟩ := k_judge hJ
  replace f1 : fX9_judge M = some (r, M1) := f1
  replace f2 : fX10_judge M1 = some (r, M2) := f2
  refine lv_aload_n hx hb dL_law_566 rfl (lv_at hl 1 rfl) ?_
  refine wc_V (As := []) (rest := []) hx hb hml hown hts hG hV hZ (wlt_8 (rfl : wkd 0 = 8)) (q := (RX9, TX9, 10)) (wen_8 (rfl : wkd 0 = 8)) rfl (cX9_judge_ok l E M f1) (cwV 0 hts gl_L_81 rfl rfl rfl cdX9_judge ⟨Nat.le_of_ble_eq_true rfl, Nat.le_of_ble_eq_true rfl⟩) rfl hl.1 rfl (Nat.le_of_ble_eq_true rfl) dL_law_567 hf hW hS rfl (fun H locs hW hS => ?_)
  refine lv_aload_n hx hb dL_law_570 rfl (lv_at hl 2 rfl) ?_
  refine wc_V (As := []) (rest := [.int r]) hx hb hml hown hts hG hV hZ (wlt_9 (rfl : wkd 70 = 9)) (q := (RX10, TX10, 31)) (wen_9 (rfl : wkd 70 = 9)) rfl (cX10_judge_ok l E M1 f2) (cwV 0 hts gl_L_84 rfl rfl rfl cdX10_judge ⟨Nat.le_of_ble_eq_true rfl, Nat.le_of_ble_eq_true rfl⟩) rfl hl.1 rfl (Nat.le_of_ble_eq_true rfl) dL_law_571 hf hW hS rfl (fun H locs hW hS => ?_)
  exact lv_icmp_eq (tgt := 829) hx hb dL_law_574 (by decide) (fun _ => kk _ H locs hI2 hW hS) (fun z => absurd rfl z)
set_option maxRecDepth 100000 in
set_option maxHeartbeats 4000000 in
theorem law_lasts (B : lB E p s m c b L xs) {i : Nat} (hi : i + 4 ≤ L) {M : wMem} {H : Heap} {locs : List Loc} {ls : Array Slot} (hI : wInv M) (hW : wH E M H) (hS : va_S (wA E) s.heap H locs) (hl : lv_has ls 4 [(0, .ref b), (1, .ref (wad E 0)), (2, .ref (wad E 70)), (3, .int (nI i))]) (hf : cells ≤ room_1.cells ∧ slots ≤ room_1.slots) (kk : ∀ (M' : wMem) (H' : Heap) (locs' : List Loc), wInv M' → wH E M' H' → va_S (wA E) s.heap H' locs' → W p l e room_1 s m #[Value.ref b] below meth c H' locs' cells slots Q (F0 m 829 ls [])) : W p l e room_1 s m #[Value.ref b] below meth c H locs cells slots Q (F0 m 579 ls []) := by
  obtain ⟨hx, hb, hml, hown, hts, hG, hV, hZ, hX, hbl, hbA, hL⟩ := id B
  obtain ⟨n0, L0, st0, hr0, t0, A0, R0, c0, p0, a0, o0, hJ⟩ := hI
  obtain ⟨r, M1, M2, f1, f2, hI2⟩ := k_lasts hJ
  replace f1 : fX9_lasts M = some (r, M1) := f1
  replace f2 : fX10_lasts M1 = some (r, M2) := f2
  refine lv_aload_n hx hb dL_law_579 rfl (lv_at hl 1 rfl) ?_
  refine wc_V (As := []) (rest := []) hx hb hml hown hts hG hV hZ (wlt_8 (rfl : wkd 0 = 8)) (q := (RX9, TX9, 10)) (wen_8 (rfl : wkd 0 = 8)) rfl (cX9_lasts_ok l E M f1) (cwV 0 hts gl_L_85 rfl rfl rfl cdX9_lasts ⟨Nat.le_of_ble_eq_true rfl, Nat.le_of_ble_eq_true rfl⟩) rfl hl.1 rfl (Nat.le_of_ble_eq_true rfl) dL_law_580 hf hW hS rfl (fun H locs hW hS => ?_)
  refine lv_aload_n hx hb dL_law_583 rfl (lv_at hl 2 rfl) ?_
  refine wc_V (As := []) (rest := [.int r]) hx hb hml hown hts hG hV hZ (wlt_9 (rfl : wkd 70 = 9)) (q := (RX10, TX10, 31)) (wen_9 (rfl : wkd 70 = 9)) rfl (cX10_lasts_ok l E M1 f2) (cwV 0 hts gl_L_88 rfl rfl rfl cdX10_lasts ⟨Nat.le_of_ble_eq_true rfl, Nat.le_of_ble_eq_true rfl⟩) rfl hl.1 rfl (Nat.le_of_ble_eq_true rfl) dL_law_584 hf hW hS rfl (fun H locs hW hS => ?_)
  exact lv_icmp_eq (tgt := 829) hx hb dL_law_587 (by decide) (fun _ => kk _ H locs hI2 hW hS) (fun z => absurd rfl z)
set_option maxRecDepth 100000 in
set_option maxHeartbeats 4000000 in
theorem law_next (B : lB E p s m c b L xs) {i : Nat} (hi : i + 4 ≤ L) {M : wMem} {H : Heap} {locs : List Loc} {ls : Array Slot} (hI : wInv M) (hW : wH E M H) (hS : va_S (wA E) s.heap H locs) (hl : lv_has ls 4 [(0, .ref b), (1, .ref (wad E 0)), (2, .ref (wad E 70)), (3, .int (nI i))]) (hf : cells ≤ room_1.cells ∧ slots ≤ room_1.slots) (kk : ∀ (M' : wMem) (H' : Heap) (locs' : List Loc), wInv M' → wH E M' H' → va_S (wA E) s.heap H' locs' → W p l e room_1 s m #[Value.ref b] below meth c H' locs' cells slots Q (F0 m 829 ls [])) : W p l e room_1 s m #[Value.ref b] below meth c H locs cells slots Q (F0 m 592 ls []) := by
  obtain ⟨hx, hb, hml, hown, hts, hG, hV, hZ, hX, hbl, hbA, hL⟩ := id B
  obtain ⟨n0, L0, st0, hr0, t0, A0, R0, c0, p0, a0, o0, hJ⟩ := hI
  have h1 : vp_in (nI i + 1) L := by
    rw [show nI i + 1 = nI (i + 1) from nI_add i 1]
    exact vp_in_nI (by omega) (by omega)
  obtain ⟨r, M1, M2, f1, f2, hI2⟩ := k_next hJ (xs (nI i + 1).toNatClampNeg)
  replace f1 : fX9_next M (xs (nI i + 1).toNatClampNeg) = some (r, M1) := f1
  replace f2 : fX10_next M1 (xs (nI i + 1).toNatClampNeg) = some (r, M2) := f2
  refine lv_aload_n hx hb dL_law_592 rfl (lv_at hl 1 rfl) ?_
  refine lv_aload_n hx hb dL_law_593 rfl (lv_at hl 0 rfl) ?_
  refine lv_iload_n hx hb dL_law_594 rfl (lv_at hl 3 rfl) ?_
  refine lv_iconst (v := 1) hx hb dL_law_595 (by decide) ?_
  refine lv_iadd hx hb dL_law_596 ?_
  refine va_sld hx hb hX hbl hbA hS h1 dL_law_597 ?_
  refine wc_V (As := [.int (xs (nI i + 1).toNatClampNeg)]) (rest := []) hx hb hml hown hts hG hV hZ (wlt_8 (rfl : wkd 0 = 8)) (q := (RX9, TX9, 10)) (wen_8 (rfl : wkd 0 = 8)) rfl (cX9_next_ok l E M (xs (nI i + 1).toNatClampNeg) f1) (cwV 1 hts gl_L_89 rfl rfl rfl cdX9_next ⟨Nat.le_of_ble_eq_true rfl, Nat.le_of_ble_eq_true rfl⟩) rfl hl.1 rfl (Nat.le_of_ble_eq_true rfl) dL_law_598 hf hW hS rfl (fun H locs hW hS => ?_)
  refine lv_aload_n hx hb dL_law_601 rfl (lv_at hl 2 rfl) ?_
  refine lv_aload_n hx hb dL_law_602 rfl (lv_at hl 0 rfl) ?_
  refine lv_iload_n hx hb dL_law_603 rfl (lv_at hl 3 rfl) ?_
  refine lv_iconst (v := 1) hx hb dL_law_604 (by decide) ?_
  refine lv_iadd hx hb dL_law_605 ?_
  refine va_sld hx hb hX hbl hbA hS h1 dL_law_606 ?_
  refine wc_V (As := [.int (xs (nI i + 1).toNatClampNeg)]) (rest := [.int r]) hx hb hml hown hts hG hV hZ (wlt_9 (rfl : wkd 70 = 9)) (q := (RX10, TX10, 31)) (wen_9 (rfl : wkd 70 = 9)) rfl (cX10_next_ok l E M1 (xs (nI i + 1).toNatClampNeg) f2) (cwV 1 hts gl_L_92 rfl rfl rfl cdX10_next ⟨Nat.le_of_ble_eq_true rfl, Nat.le_of_ble_eq_true rfl⟩) rfl hl.1 rfl (Nat.le_of_ble_eq_true rfl) dL_law_607 hf hW hS rfl (fun H locs hW hS => ?_)
  exact lv_icmp_eq (tgt := 829) hx hb dL_law_610 (by decide) (fun _ => kk _ H locs hI2 hW hS) (fun z => absurd rfl z)
set_option maxRecDepth 100000 in
set_option maxHeartbeats 4000000 in
theorem law_bridged (B : lB E p s m c b L xs) {i : Nat} (hi : i + 4 ≤ L) {M : wMem} {H : Heap} {locs : List Loc} {ls : Array Slot} (hI : wInv M) (hW : wH E M H) (hS : va_S (wA E) s.heap H locs) (hl : lv_has ls 4 [(0, .ref b), (1, .ref (wad E 0)), (2, .ref (wad E 70)), (3, .int (nI i))]) (hf : cells ≤ room_1.cells ∧ slots ≤ room_1.slots) (kk : ∀ (M' : wMem) (H' : Heap) (locs' : List Loc), wInv M' → wH E M' H' → va_S (wA E) s.heap H' locs' → W p l e room_1 s m #[Value.ref b] below meth c H' locs' cells slots Q (F0 m 829 ls [])) : W p l e room_1 s m #[Value.ref b] below meth c H locs cells slots Q (F0 m 615 ls []) := by
  obtain ⟨hx, hb, hml, hown, hts, hG, hV, hZ, hX, hbl, hbA, hL⟩ := id B
  obtain ⟨n0, L0, st0, hr0, t0, A0, R0, c0, p0, a0, o0, hJ⟩ := hI
  have h1 : vp_in (nI i + 1) L := by
    rw [show nI i + 1 = nI (i + 1) from nI_add i 1]
    exact vp_in_nI (by omega) (by omega)
  obtain ⟨r, M1, M2, f1, f2, hI2⟩ := k_bridged hJ (xs (nI i + 1).toNatClampNeg)
  replace f1 : fX9_bridged M (xs (nI i + 1).toNatClampNeg) = some (r, M1) := f1
  replace f2 : fX10_bridged M1 (xs (nI i + 1).toNatClampNeg) = some (r, M2) := f2
  refine lv_aload_n hx hb dL_law_615 rfl (lv_at hl 1 rfl) ?_
  refine lv_aload_n hx hb dL_law_616 rfl (lv_at hl 0 rfl) ?_
  refine lv_iload_n hx hb dL_law_617 rfl (lv_at hl 3 rfl) ?_
  refine lv_iconst (v := 1) hx hb dL_law_618 (by decide) ?_
  refine lv_iadd hx hb dL_law_619 ?_
  refine va_sld hx hb hX hbl hbA hS h1 dL_law_620 ?_
  refine wc_V (As := [.int (xs (nI i + 1).toNatClampNeg)]) (rest := []) hx hb hml hown hts hG hV hZ (wlt_8 (rfl : wkd 0 = 8)) (q := (RX9, TX9, 10)) (wen_8 (rfl : wkd 0 = 8)) rfl (cX9_bridged_ok l E M (xs (nI i + 1).toNatClampNeg) f1) (cwV 1 hts gl_L_93 rfl rfl rfl cdX9_bridged ⟨Nat.le_of_ble_eq_true rfl, Nat.le_of_ble_eq_true rfl⟩) rfl hl.1 rfl (Nat.le_of_ble_eq_true rfl) dL_law_621 hf hW hS rfl (fun H locs hW hS => ?_)
  refine lv_aload_n hx hb dL_law_624 rfl (lv_at hl 2 rfl) ?_
  refine lv_aload_n hx hb dL_law_625 rfl (lv_at hl 0 rfl) ?_
  refine lv_iload_n hx hb dL_law_626 rfl (lv_at hl 3 rfl) ?_
  refine lv_iconst (v := 1) hx hb dL_law_627 (by decide) ?_
  refine lv_iadd hx hb dL_law_628 ?_
  refine va_sld hx hb hX hbl hbA hS h1 dL_law_629 ?_
  refine wc_V (As := [.int (xs (nI i + 1).toNatClampNeg)]) (rest := [.int r]) hx hb hml hown hts hG hV hZ (wlt_9 (rfl : wkd 70 = 9)) (q := (RX10, TX10, 31)) (wen_9 (rfl : wkd 70 = 9)) rfl (cX10_bridged_ok l E M1 (xs (nI i + 1).toNatClampNeg) f2) (cwV 1 hts gl_L_96 rfl rfl rfl cdX10_bridged ⟨Nat.le_of_ble_eq_true rfl, Nat.le_of_ble_eq_true rfl⟩) rfl hl.1 rfl (Nat.le_of_ble_eq_true rfl) dL_law_630 hf hW hS rfl (fun H locs hW hS => ?_)
  exact lv_icmp_eq (tgt := 829) hx hb dL_law_633 (by decide) (fun _ => kk _ H locs hI2 hW hS) (fun z => absurd rfl z)
set_option maxRecDepth 100000 in
set_option maxHeartbeats 4000000 in
theorem law_stop (B : lB E p s m c b L xs) {i : Nat} (hi : i + 4 ≤ L) {M : wMem} {H : Heap} {locs : List Loc} {ls : Array Slot} (hI : wInv M) (hW : wH E M H) (hS : va_S (wA E) s.heap H locs) (hl : lv_has ls 4 [(0, .ref b), (1, .ref (wad E 0)), (2, .ref (wad E 70)), (3, .int (nI i))]) (hf : cells ≤ room_1.cells ∧ slots ≤ room_1.slots) (kk : ∀ (M' : wMem) (H' : Heap) (locs' : List Loc), wInv M' → wH E M' H' → va_S (wA E) s.heap H' locs' → W p l e room_1 s m #[Value.ref b] below meth c H' locs' cells slots Q (F0 m 829 ls [])) : W p l e room_1 s m #[Value.ref b] below meth c H locs cells slots Q (F0 m 638 ls []) := by
  obtain ⟨hx, hb, hml, hown, hts, hG, hV, hZ, hX, hbl, hbA, hL⟩ := id B
  obtain ⟨n0, L0, st0, hr0, t0, A0, R0, c0, p0, a0, o0, hJ⟩ := hI
  obtain ⟨r, M1, M2, f1, f2, hI2⟩ := k_stop hJ
  replace f1 : fX9_stop M = some (r, M1) := f1
  replace f2 : fX10_stop M1 = some (r, M2) := f2
  refine lv_aload_n hx hb dL_law_638 rfl (lv_at hl 1 rfl) ?_
  refine wc_V (As := []) (rest := []) hx hb hml hown hts hG hV hZ (wlt_8 (rfl : wkd 0 = 8)) (q := (RX9, TX9, 10)) (wen_8 (rfl : wkd 0 = 8)) rfl (cX9_stop_ok l E M f1) (cwV 0 hts gl_L_97 rfl rfl rfl cdX9_stop ⟨Nat.le_of_ble_eq_true rfl, Nat.le_of_ble_eq_true rfl⟩) rfl hl.1 rfl (Nat.le_of_ble_eq_true rfl) dL_law_639 hf hW hS rfl (fun H locs hW hS => ?_)
  refine lv_aload_n hx hb dL_law_642 rfl (lv_at hl 2 rfl) ?_
  refine wc_V (As := []) (rest := [.int r]) hx hb hml hown hts hG hV hZ (wlt_9 (rfl : wkd 70 = 9)) (q := (RX10, TX10, 31)) (wen_9 (rfl : wkd 70 = 9)) rfl (cX10_stop_ok l E M1 f2) (cwV 0 hts gl_L_100 rfl rfl rfl cdX10_stop ⟨Nat.le_of_ble_eq_true rfl, Nat.le_of_ble_eq_true rfl⟩) rfl hl.1 rfl (Nat.le_of_ble_eq_true rfl) dL_law_643 hf hW hS rfl (fun H locs hW hS => ?_)
  exact lv_icmp_eq (tgt := 829) hx hb dL_law_646 (by decide) (fun _ => kk _ H locs hI2 hW hS) (fun z => absurd rfl z)
set_option maxRecDepth 100000 in
set_option maxHeartbeats 4000000 in
theorem law_light (B : lB E p s m c b L xs) {i : Nat} (hi : i + 4 ≤ L) {M : wMem} {H : Heap} {locs : List Loc} {ls : Array Slot} (hI : wInv M) (hW : wH E M H) (hS : va_S (wA E) s.heap H locs) (hl : lv_has ls 4 [(0, .ref b), (1, .ref (wad E 0)), (2, .ref (wad E 70)), (3, .int (nI i))]) (hf : cells ≤ room_1.cells ∧ slots ≤ room_1.slots) (kk : ∀ (M' : wMem) (H' : Heap) (locs' : List Loc), wInv M' → wH E M' H' → va_S (wA E) s.heap H' locs' → W p l e room_1 s m #[Value.ref b] below meth c H' locs' cells slots Q (F0 m 829 ls [])) : W p l e room_1 s m #[Value.ref b] below meth c H locs cells slots Q (F0 m 651 ls []) := by
  obtain ⟨hx, hb, hml, hown, hts, hG, hV, hZ, hX, hbl, hbA, hL⟩ := id B
  obtain ⟨n0, L0, st0, hr0, t0, A0, R0, c0, p0, a0, o0, hJ⟩ := hI
  have h1 : vp_in (nI i + 1) L := by
    rw [show nI i + 1 = nI (i + 1) from nI_add i 1]
    exact vp_in_nI (by omega) (by omega)
  obtain ⟨r, M1, M2, f1, f2, hI2⟩ := k_light hJ (xs (nI i + 1).toNatClampNeg)
  replace f1 : fX9_light M (xs (nI i + 1).toNatClampNeg) = some (r, M1) := f1
  replace f2 : fX10_light M1 (xs (nI i + 1).toNatClampNeg) = some (r, M2) := f2
  refine lv_aload_n hx hb dL_law_651 rfl (lv_at hl 1 rfl) ?_
  refine lv_aload_n hx hb dL_law_652 rfl (lv_at hl 0 rfl) ?_
  refine lv_iload_n hx hb dL_law_653 rfl (lv_at hl 3 rfl) ?_
  refine lv_iconst (v := 1) hx hb dL_law_654 (by decide) ?_
  refine lv_iadd hx hb dL_law_655 ?_
  refine va_sld hx hb hX hbl hbA hS h1 dL_law_656 ?_
  refine wc_V (As := [.int (xs (nI i + 1).toNatClampNeg)]) (rest := []) hx hb hml hown hts hG hV hZ (wlt_8 (rfl : wkd 0 = 8)) (q := (RX9, TX9, 10)) (wen_8 (rfl : wkd 0 = 8)) rfl (cX9_light_ok l E M (xs (nI i + 1).toNatClampNeg) f1) (cwV 1 hts gl_L_101 rfl rfl rfl cdX9_light ⟨Nat.le_of_ble_eq_true rfl, Nat.le_of_ble_eq_true rfl⟩) rfl hl.1 rfl (Nat.le_of_ble_eq_true rfl) dL_law_657 hf hW hS rfl (fun H locs hW hS => ?_)
  refine lv_aload_n hx hb dL_law_660 rfl (lv_at hl 2 rfl) ?_
  refine lv_aload_n hx hb dL_law_661 rfl (lv_at hl 0 rfl) ?_
  refine lv_iload_n hx hb dL_law_662 rfl (lv_at hl 3 rfl) ?_
  refine lv_iconst (v := 1) hx hb dL_law_663 (by decide) ?_
  refine lv_iadd hx hb dL_law_664 ?_
  refine va_sld hx hb hX hbl hbA hS h1 dL_law_665 ?_
  refine wc_V (As := [.int (xs (nI i + 1).toNatClampNeg)]) (rest := [.int r]) hx hb hml hown hts hG hV hZ (wlt_9 (rfl : wkd 70 = 9)) (q := (RX10, TX10, 31)) (wen_9 (rfl : wkd 70 = 9)) rfl (cX10_light_ok l E M1 (xs (nI i + 1).toNatClampNeg) f2) (cwV 1 hts gl_L_104 rfl rfl rfl cdX10_light ⟨Nat.le_of_ble_eq_true rfl, Nat.le_of_ble_eq_true rfl⟩) rfl hl.1 rfl (Nat.le_of_ble_eq_true rfl) dL_law_666 hf hW hS rfl (fun H locs hW hS => ?_)
  exact lv_icmp_eq (tgt := 829) hx hb dL_law_669 (by decide) (fun _ => kk _ H locs hI2 hW hS) (fun z => absurd rfl z)
set_option maxRecDepth 100000 in
set_option maxHeartbeats 4000000 in
theorem law_keeps (B : lB E p s m c b L xs) {i : Nat} (hi : i + 4 ≤ L) {M : wMem} {H : Heap} {locs : List Loc} {ls : Array Slot} (hI : wInv M) (hW : wH E M H) (hS : va_S (wA E) s.heap H locs) (hl : lv_has ls 4 [(0, .ref b), (1, .ref (wad E 0)), (2, .ref (wad E 70)), (3, .int (nI i))]) (hf : cells ≤ room_1.cells ∧ slots ≤ room_1.slots) (kk : ∀ (M' : wMem) (H' : Heap) (locs' : List Loc), wInv M' → wH E M' H' → va_S (wA E) s.heap H' locs' → W p l e room_1 s m #[Value.ref b] below meth c H' locs' cells slots Q (F0 m 829 ls [])) : W p l e room_1 s m #[Value.ref b] below meth c H locs cells slots Q (F0 m 674 ls []) := by
  obtain ⟨hx, hb, hml, hown, hts, hG, hV, hZ, hX, hbl, hbA, hL⟩ := id B
  obtain ⟨n0, L0, st0, hr0, t0, A0, R0, c0, p0, a0, o0, hJ⟩ := hI
  have h1 : vp_in (nI i + 1) L := by
    rw [show nI i + 1 = nI (i + 1) from nI_add i 1]
    exact vp_in_nI (by omega) (by omega)
  obtain ⟨r, M1, M2, f1, f2, hI2⟩ := k_keeps hJ (xs (nI i + 1).toNatClampNeg)
  replace f1 : fX9_keeps M (xs (nI i + 1).toNatClampNeg) = some (r, M1) := f1
  replace f2 : fX10_keeps M1 (xs (nI i + 1).toNatClampNeg) = some (r, M2) := f2
  refine lv_aload_n hx hb dL_law_674 rfl (lv_at hl 1 rfl) ?_
  refine lv_aload_n hx hb dL_law_675 rfl (lv_at hl 0 rfl) ?_
  refine lv_iload_n hx hb dL_law_676 rfl (lv_at hl 3 rfl) ?_
  refine lv_iconst (v := 1) hx hb dL_law_677 (by decide) ?_
  refine lv_iadd hx hb dL_law_678 ?_
  refine va_sld hx hb hX hbl hbA hS h1 dL_law_679 ?_
  refine wc_V (As := [.int (xs (nI i + 1).toNatClampNeg)]) (rest := []) hx hb hml hown hts hG hV hZ (wlt_8 (rfl : wkd 0 = 8)) (q := (RX9, TX9, 10)) (wen_8 (rfl : wkd 0 = 8)) rfl (cX9_keeps_ok l E M (xs (nI i + 1).toNatClampNeg) f1) (cwV 1 hts gl_L_105 rfl rfl rfl cdX9_keeps ⟨Nat.le_of_ble_eq_true rfl, Nat.le_of_ble_eq_true rfl⟩) rfl hl.1 rfl (Nat.le_of_ble_eq_true rfl) dL_law_680 hf hW hS rfl (fun H locs hW hS => ?_)
  refine lv_aload_n hx hb dL_law_683 rfl (lv_at hl 2 rfl) ?_
  refine lv_aload_n hx hb dL_law_684 rfl (lv_at hl 0 rfl) ?_
  refine lv_iload_n hx hb dL_law_685 rfl (lv_at hl 3 rfl) ?_
  refine lv_iconst (v := 1) hx hb dL_law_686 (by decide) ?_
  refine lv_iadd hx hb dL_law_687 ?_
  refine va_sld hx hb hX hbl hbA hS h1 dL_law_688 ?_
  refine wc_V (As := [.int (xs (nI i + 1).toNatClampNeg)]) (rest := [.int r]) hx hb hml hown hts hG hV hZ (wlt_9 (rfl : wkd 70 = 9)) (q := (RX10, TX10, 31)) (wen_9 (rfl : wkd 70 = 9)) rfl (cX10_keeps_ok l E M1 (xs (nI i + 1).toNatClampNeg) f2) (cwV 1 hts gl_L_108 rfl rfl rfl cdX10_keeps ⟨Nat.le_of_ble_eq_true rfl, Nat.le_of_ble_eq_true rfl⟩) rfl hl.1 rfl (Nat.le_of_ble_eq_true rfl) dL_law_689 hf hW hS rfl (fun H locs hW hS => ?_)
  exact lv_icmp_eq (tgt := 829) hx hb dL_law_692 (by decide) (fun _ => kk _ H locs hI2 hW hS) (fun z => absurd rfl z)
set_option maxRecDepth 100000 in
set_option maxHeartbeats 4000000 in
theorem law_allAnew (B : lB E p s m c b L xs) {i : Nat} (hi : i + 4 ≤ L) {M : wMem} {H : Heap} {locs : List Loc} {ls : Array Slot} (hI : wInv M) (hW : wH E M H) (hS : va_S (wA E) s.heap H locs) (hl : lv_has ls 4 [(0, .ref b), (1, .ref (wad E 0)), (2, .ref (wad E 70)), (3, .int (nI i))]) (hf : cells ≤ room_1.cells ∧ slots ≤ room_1.slots) (kk : ∀ (M' : wMem) (H' : Heap) (locs' : List Loc), wInv M' → wH E M' H' → va_S (wA E) s.heap H' locs' → W p l e room_1 s m #[Value.ref b] below meth c H' locs' cells slots Q (F0 m 829 ls [])) : W p l e room_1 s m #[Value.ref b] below meth c H locs cells slots Q (F0 m 697 ls []) := by
  obtain ⟨hx, hb, hml, hown, hts, hG, hV, hZ, hX, hbl, hbA, hL⟩ := id B
  obtain ⟨n0, L0, st0, hr0, t0, A0, R0, c0, p0, a0, o0, hJ⟩ := hI
  obtain ⟨r, M1, M2, f1, f2, hI2⟩ := k_allAnew hJ
  replace f1 : fX9_allAnew M = some (r, M1) := f1
  replace f2 : fX10_allAnew M1 = some (r, M2) := f2
  refine lv_aload_n hx hb dL_law_697 rfl (lv_at hl 1 rfl) ?_
  refine wc_V (As := []) (rest := []) hx hb hml hown hts hG hV hZ (wlt_8 (rfl : wkd 0 = 8)) (q := (RX9, TX9, 10)) (wen_8 (rfl : wkd 0 = 8)) rfl (cX9_allAnew_ok l E M f1) (cwV 0 hts gl_L_109 rfl rfl rfl cdX9_allAnew ⟨Nat.le_of_ble_eq_true rfl, Nat.le_of_ble_eq_true rfl⟩) rfl hl.1 rfl (Nat.le_of_ble_eq_true rfl) dL_law_698 hf hW hS rfl (fun H locs hW hS => ?_)
  refine lv_aload_n hx hb dL_law_701 rfl (lv_at hl 2 rfl) ?_
  refine wc_V (As := []) (rest := [.int r]) hx hb hml hown hts hG hV hZ (wlt_9 (rfl : wkd 70 = 9)) (q := (RX10, TX10, 31)) (wen_9 (rfl : wkd 70 = 9)) rfl (cX10_allAnew_ok l E M1 f2) (cwV 0 hts gl_L_112 rfl rfl rfl cdX10_allAnew ⟨Nat.le_of_ble_eq_true rfl, Nat.le_of_ble_eq_true rfl⟩) rfl hl.1 rfl (Nat.le_of_ble_eq_true rfl) dL_law_702 hf hW hS rfl (fun H locs hW hS => ?_)
  exact lv_icmp_eq (tgt := 829) hx hb dL_law_705 (by decide) (fun _ => kk _ H locs hI2 hW hS) (fun z => absurd rfl z)
set_option maxRecDepth 100000 in
set_option maxHeartbeats 4000000 in
theorem law_joined (B : lB E p s m c b L xs) {i : Nat} (hi : i + 4 ≤ L) {M : wMem} {H : Heap} {locs : List Loc} {ls : Array Slot} (hI : wInv M) (hW : wH E M H) (hS : va_S (wA E) s.heap H locs) (hl : lv_has ls 4 [(0, .ref b), (1, .ref (wad E 0)), (2, .ref (wad E 70)), (3, .int (nI i))]) (hf : cells ≤ room_1.cells ∧ slots ≤ room_1.slots) (kk : ∀ (M' : wMem) (H' : Heap) (locs' : List Loc), wInv M' → wH E M' H' → va_S (wA E) s.heap H' locs' → W p l e room_1 s m #[Value.ref b] below meth c H' locs' cells slots Q (F0 m 829 ls [])) : W p l e room_1 s m #[Value.ref b] below meth c H locs cells slots Q (F0 m 710 ls []) := by
  obtain ⟨hx, hb, hml, hown, hts, hG, hV, hZ, hX, hbl, hbA, hL⟩ := id B
  obtain ⟨n0, L0, st0, hr0, t0, A0, R0, c0, p0, a0, o0, hJ⟩ := hI
  obtain ⟨r, f1, f2⟩ := k_joined hJ
  replace f1 : fX9_joined M = some r := f1
  replace f2 : fX10_joined M = some r := f2
  have hI2 : wInv M := ⟨n0, L0, st0, hr0, t0, A0, R0, c0, p0, a0, o0, hJ⟩
  refine lv_aload_n hx hb dL_law_710 rfl (lv_at hl 1 rfl) ?_
  refine wc_V (As := []) (rest := []) hx hb hml hown hts hG hV hZ (wlt_8 (rfl : wkd 0 = 8)) (q := (RX9, TX9, 10)) (wen_8 (rfl : wkd 0 = 8)) rfl (cX9_joined_ok l E M f1) (cwV 0 hts gl_L_113 rfl rfl rfl cdX9_joined ⟨Nat.le_of_ble_eq_true rfl, Nat.le_of_ble_eq_true rfl⟩) rfl hl.1 rfl (Nat.le_of_ble_eq_true rfl) dL_law_711 hf hW hS rfl (fun H locs hW hS => ?_)
  refine lv_aload_n hx hb dL_law_714 rfl (lv_at hl 2 rfl) ?_
  refine wc_V (As := []) (rest := [.int r]) hx hb hml hown hts hG hV hZ (wlt_9 (rfl : wkd 70 = 9)) (q := (RX10, TX10, 31)) (wen_9 (rfl : wkd 70 = 9)) rfl (cX10_joined_ok l E M f2) (cwV 0 hts gl_L_116 rfl rfl rfl cdX10_joined ⟨Nat.le_of_ble_eq_true rfl, Nat.le_of_ble_eq_true rfl⟩) rfl hl.1 rfl (Nat.le_of_ble_eq_true rfl) dL_law_715 hf hW hS rfl (fun H locs hW hS => ?_)
  exact lv_icmp_eq (tgt := 829) hx hb dL_law_718 (by decide) (fun _ => kk _ H locs hI2 hW hS) (fun z => absurd rfl z)
set_option maxRecDepth 100000 in
set_option maxHeartbeats 4000000 in
theorem law_two (B : lB E p s m c b L xs) {i : Nat} (hi : i + 4 ≤ L) {M : wMem} {H : Heap} {locs : List Loc} {ls : Array Slot} (hI : wInv M) (hW : wH E M H) (hS : va_S (wA E) s.heap H locs) (hl : lv_has ls 4 [(0, .ref b), (1, .ref (wad E 0)), (2, .ref (wad E 70)), (3, .int (nI i))]) (hf : cells ≤ room_1.cells ∧ slots ≤ room_1.slots) (kk : ∀ (M' : wMem) (H' : Heap) (locs' : List Loc), wInv M' → wH E M' H' → va_S (wA E) s.heap H' locs' → W p l e room_1 s m #[Value.ref b] below meth c H' locs' cells slots Q (F0 m 829 ls [])) : W p l e room_1 s m #[Value.ref b] below meth c H locs cells slots Q (F0 m 723 ls []) := by
  obtain ⟨hx, hb, hml, hown, hts, hG, hV, hZ, hX, hbl, hbA, hL⟩ := id B
  obtain ⟨n0, L0, st0, hr0, t0, A0, R0, c0, p0, a0, o0, hJ⟩ := hI
  have h1 : vp_in (nI i + 1) L := by
    rw [show nI i + 1 = nI (i + 1) from nI_add i 1]
    exact vp_in_nI (by omega) (by omega)
  obtain ⟨r, M1, M2, f1, f2, hI2⟩ := k_two hJ (xs (nI i + 1).toNatClampNeg)
  replace f1 : fX9_two M (xs (nI i + 1).toNatClampNeg) = some (r, M1) := f1
  replace f2 : fX10_two M1 (xs (nI i + 1).toNatClampNeg) = some (r, M2) := f2
  refine lv_aload_n hx hb dL_law_723 rfl (lv_at hl 1 rfl) ?_
  refine lv_aload_n hx hb dL_law_724 rfl (lv_at hl 0 rfl) ?_
  refine lv_iload_n hx hb dL_law_725 rfl (lv_at hl 3 rfl) ?_
  refine lv_iconst (v := 1) hx hb dL_law_726 (by decide) ?_
  refine lv_iadd hx hb dL_law_727 ?_
  refine va_sld hx hb hX hbl hbA hS h1 dL_law_728 ?_
  refine wc_V (As := [.int (xs (nI i + 1).toNatClampNeg)]) (rest := []) hx hb hml hown hts hG hV hZ (wlt_8 (rfl : wkd 0 = 8)) (q := (RX9, TX9, 10)) (wen_8 (rfl : wkd 0 = 8)) rfl (cX9_two_ok l E M (xs (nI i + 1).toNatClampNeg) f1) (cwV 1 hts gl_L_117 rfl rfl rfl cdX9_two ⟨Nat.le_of_ble_eq_true rfl, Nat.le_of_ble_eq_true rfl⟩) rfl hl.1 rfl (Nat.le_of_ble_eq_true rfl) dL_law_729 hf hW hS rfl (fun H locs hW hS => ?_)
  refine lv_aload_n hx hb dL_law_732 rfl (lv_at hl 2 rfl) ?_
  refine lv_aload_n hx hb dL_law_733 rfl (lv_at hl 0 rfl) ?_
  refine lv_iload_n hx hb dL_law_734 rfl (lv_at hl 3 rfl) ?_
  refine lv_iconst (v := 1) hx hb dL_law_735 (by decide) ?_
  refine lv_iadd hx hb dL_law_736 ?_
  refine va_sld hx hb hX hbl hbA hS h1 dL_law_737 ?_
  refine wc_V (As := [.int (xs (nI i + 1).toNatClampNeg)]) (rest := [.long r]) hx hb hml hown hts hG hV hZ (wlt_9 (rfl : wkd 70 = 9)) (q := (RX10, TX10, 31)) (wen_9 (rfl : wkd 70 = 9)) rfl (cX10_two_ok l E M1 (xs (nI i + 1).toNatClampNeg) f2) (cwV 1 hts gl_L_121 rfl rfl rfl cdX10_two ⟨Nat.le_of_ble_eq_true rfl, Nat.le_of_ble_eq_true rfl⟩) rfl hl.1 rfl (Nat.le_of_ble_eq_true rfl) dL_law_738 hf hW hS rfl (fun H locs hW hS => ?_)
  refine W.lcmp hx hb dL_law_741 ?_
  exact lv_if_eq (tgt := 829) hx hb dL_law_742 (by decide) (fun _ => kk _ H locs hI2 hW hS) (fun z => absurd (lg_self r) z)
set_option maxRecDepth 100000 in
set_option maxHeartbeats 4000000 in
theorem law_seeds (B : lB E p s m c b L xs) {i : Nat} (hi : i + 4 ≤ L) {M : wMem} {H : Heap} {locs : List Loc} {ls : Array Slot} (hI : wInv M) (hW : wH E M H) (hS : va_S (wA E) s.heap H locs) (hl : lv_has ls 4 [(0, .ref b), (1, .ref (wad E 0)), (2, .ref (wad E 70)), (3, .int (nI i))]) (hf : cells ≤ room_1.cells ∧ slots ≤ room_1.slots) (kk : ∀ (M' : wMem) (H' : Heap) (locs' : List Loc), wInv M' → wH E M' H' → va_S (wA E) s.heap H' locs' → W p l e room_1 s m #[Value.ref b] below meth c H' locs' cells slots Q (F0 m 829 ls [])) : W p l e room_1 s m #[Value.ref b] below meth c H locs cells slots Q (F0 m 747 ls []) := by
  obtain ⟨hx, hb, hml, hown, hts, hG, hV, hZ, hX, hbl, hbA, hL⟩ := id B
  obtain ⟨n0, L0, st0, hr0, t0, A0, R0, c0, p0, a0, o0, hJ⟩ := hI
  have h1 : vp_in (nI i + 1) L := by
    rw [show nI i + 1 = nI (i + 1) from nI_add i 1]
    exact vp_in_nI (by omega) (by omega)
  have h2 : vp_in (nI i + 2) L := by
    rw [show nI i + 2 = nI (i + 2) from nI_add i 2]
    exact vp_in_nI (by omega) (by omega)
  obtain ⟨r, M1, M2, f1, f2, hI2⟩ := k_seeds hJ (xs (nI i + 1).toNatClampNeg) (xs (nI i + 2).toNatClampNeg)
  replace f1 : fX9_seeds M (xs (nI i + 1).toNatClampNeg) (xs (nI i + 2).toNatClampNeg) = some (r, M1) := f1
  replace f2 : fX10_seeds M1 (xs (nI i + 1).toNatClampNeg) (xs (nI i + 2).toNatClampNeg) = some (r, M2) := f2
  refine lv_aload_n hx hb dL_law_747 rfl (lv_at hl 1 rfl) ?_
  refine lv_aload_n hx hb dL_law_748 rfl (lv_at hl 0 rfl) ?_
  refine lv_iload_n hx hb dL_law_749 rfl (lv_at hl 3 rfl) ?_
  refine lv_iconst (v := 1) hx hb dL_law_750 (by decide) ?_
  refine lv_iadd hx hb dL_law_751 ?_
  refine va_sld hx hb hX hbl hbA hS h1 dL_law_752 ?_
  refine lv_aload_n hx hb dL_law_753 rfl (lv_at hl 0 rfl) ?_
  refine lv_iload_n hx hb dL_law_754 rfl (lv_at hl 3 rfl) ?_
  refine lv_iconst (v := 2) hx hb dL_law_755 (by decide) ?_
  refine lv_iadd hx hb dL_law_756 ?_
  refine va_sld hx hb hX hbl hbA hS h2 dL_law_757 ?_
  refine wc_V (As := [.int (xs (nI i + 1).toNatClampNeg), .int (xs (nI i + 2).toNatClampNeg)]) (rest := []) hx hb hml hown hts hG hV hZ (wlt_8 (rfl : wkd 0 = 8)) (q := (RX9, TX9, 10)) (wen_8 (rfl : wkd 0 = 8)) rfl (cX9_seeds_ok l E M (xs (nI i + 1).toNatClampNeg) (xs (nI i + 2).toNatClampNeg) f1) (cwV 2 hts gl_L_122 rfl rfl rfl cdX9_seeds ⟨Nat.le_of_ble_eq_true rfl, Nat.le_of_ble_eq_true rfl⟩) rfl hl.1 rfl (Nat.le_of_ble_eq_true rfl) dL_law_758 hf hW hS rfl (fun H locs hW hS => ?_)
  refine lv_aload_n hx hb dL_law_761 rfl (lv_at hl 2 rfl) ?_
  refine lv_aload_n hx hb dL_law_762 rfl (lv_at hl 0 rfl) ?_
  refine lv_iload_n hx hb dL_law_763 rfl (lv_at hl 3 rfl) ?_
  refine lv_iconst (v := 1) hx hb dL_law_764 (by decide) ?_
  refine lv_iadd hx hb dL_law_765 ?_
  refine va_sld hx hb hX hbl hbA hS h1 dL_law_766 ?_
  refine lv_aload_n hx hb dL_law_767 rfl (lv_at hl 0 rfl) ?_
  refine lv_iload_n hx hb dL_law_768 rfl (lv_at hl 3 rfl) ?_
  refine lv_iconst (v := 2) hx hb dL_law_769 (by decide) ?_
  refine lv_iadd hx hb dL_law_770 ?_
  refine va_sld hx hb hX hbl hbA hS h2 dL_law_771 ?_
  refine wc_V (As := [.int (xs (nI i + 1).toNatClampNeg), .int (xs (nI i + 2).toNatClampNeg)]) (rest := [.int r]) hx hb hml hown hts hG hV hZ (wlt_9 (rfl : wkd 70 = 9)) (q := (RX10, TX10, 31)) (wen_9 (rfl : wkd 70 = 9)) rfl (cX10_seeds_ok l E M1 (xs (nI i + 1).toNatClampNeg) (xs (nI i + 2).toNatClampNeg) f2) (cwV 2 hts gl_L_125 rfl rfl rfl cdX10_seeds ⟨Nat.le_of_ble_eq_true rfl, Nat.le_of_ble_eq_true rfl⟩) rfl hl.1 rfl (Nat.le_of_ble_eq_true rfl) dL_law_772 hf hW hS rfl (fun H locs hW hS => ?_)
  exact lv_icmp_eq (tgt := 829) hx hb dL_law_775 (by decide) (fun _ => kk _ H locs hI2 hW hS) (fun z => absurd rfl z)
set_option maxRecDepth 100000 in
set_option maxHeartbeats 4000000 in
theorem law_image (B : lB E p s m c b L xs) {i : Nat} (hi : i + 4 ≤ L) {M : wMem} {H : Heap} {locs : List Loc} {ls : Array Slot} (hI : wInv M) (hW : wH E M H) (hS : va_S (wA E) s.heap H locs) (hl : lv_has ls 4 [(0, .ref b), (1, .ref (wad E 0)), (2, .ref (wad E 70)), (3, .int (nI i))]) (hf : cells ≤ room_1.cells ∧ slots ≤ room_1.slots) (kk : ∀ (M' : wMem) (H' : Heap) (locs' : List Loc), wInv M' → wH E M' H' → va_S (wA E) s.heap H' locs' → W p l e room_1 s m #[Value.ref b] below meth c H' locs' cells slots Q (F0 m 829 ls [])) : W p l e room_1 s m #[Value.ref b] below meth c H locs cells slots Q (F0 m 780 ls []) := by
  obtain ⟨hx, hb, hml, hown, hts, hG, hV, hZ, hX, hbl, hbA, hL⟩ := id B
  obtain ⟨n0, L0, st0, hr0, t0, A0, R0, c0, p0, a0, o0, hJ⟩ := hI
  obtain ⟨r, M1, M2, f1, f2, hI2⟩ := k_image hJ
  replace f1 : fX9_image M = some (r, M1) := f1
  replace f2 : fX10_image M1 = some (r, M2) := f2
  refine lv_aload_n hx hb dL_law_780 rfl (lv_at hl 1 rfl) ?_
  refine wc_V (As := []) (rest := []) hx hb hml hown hts hG hV hZ (wlt_8 (rfl : wkd 0 = 8)) (q := (RX9, TX9, 10)) (wen_8 (rfl : wkd 0 = 8)) rfl (cX9_image_ok l E M f1) (cwV 0 hts gl_L_126 rfl rfl rfl cdX9_image ⟨Nat.le_of_ble_eq_true rfl, Nat.le_of_ble_eq_true rfl⟩) rfl hl.1 rfl (Nat.le_of_ble_eq_true rfl) dL_law_781 hf hW hS rfl (fun H locs hW hS => ?_)
  refine lv_aload_n hx hb dL_law_784 rfl (lv_at hl 2 rfl) ?_
  refine wc_V (As := []) (rest := [.int r]) hx hb hml hown hts hG hV hZ (wlt_9 (rfl : wkd 70 = 9)) (q := (RX10, TX10, 31)) (wen_9 (rfl : wkd 70 = 9)) rfl (cX10_image_ok l E M1 f2) (cwV 0 hts gl_L_129 rfl rfl rfl cdX10_image ⟨Nat.le_of_ble_eq_true rfl, Nat.le_of_ble_eq_true rfl⟩) rfl hl.1 rfl (Nat.le_of_ble_eq_true rfl) dL_law_785 hf hW hS rfl (fun H locs hW hS => ?_)
  exact lv_icmp_eq (tgt := 829) hx hb dL_law_788 (by decide) (fun _ => kk _ H locs hI2 hW hS) (fun z => absurd rfl z)
set_option maxRecDepth 100000 in
set_option maxHeartbeats 4000000 in
theorem law_restore (B : lB E p s m c b L xs) {i : Nat} (hi : i + 4 ≤ L) {M : wMem} {H : Heap} {locs : List Loc} {ls : Array Slot} (hI : wInv M) (hW : wH E M H) (hS : va_S (wA E) s.heap H locs) (hl : lv_has ls 4 [(0, .ref b), (1, .ref (wad E 0)), (2, .ref (wad E 70)), (3, .int (nI i))]) (hf : cells ≤ room_1.cells ∧ slots ≤ room_1.slots) (kk : ∀ (M' : wMem) (H' : Heap) (locs' : List Loc), wInv M' → wH E M' H' → va_S (wA E) s.heap H' locs' → W p l e room_1 s m #[Value.ref b] below meth c H' locs' cells slots Q (F0 m 829 ls [])) : W p l e room_1 s m #[Value.ref b] below meth c H locs cells slots Q (F0 m 793 ls []) := by
  obtain ⟨hx, hb, hml, hown, hts, hG, hV, hZ, hX, hbl, hbA, hL⟩ := id B
  obtain ⟨n0, L0, st0, hr0, t0, A0, R0, c0, p0, a0, o0, hJ⟩ := hI
  obtain ⟨r, M1, M2, f1, f2, hI2⟩ := k_restore hJ
  replace f1 : fX9_restore M = some (r, M1) := f1
  replace f2 : fX10_restore M1 = some (r, M2) := f2
  refine lv_aload_n hx hb dL_law_793 rfl (lv_at hl 1 rfl) ?_
  refine wc_V (As := []) (rest := []) hx hb hml hown hts hG hV hZ (wlt_8 (rfl : wkd 0 = 8)) (q := (RX9, TX9, 10)) (wen_8 (rfl : wkd 0 = 8)) rfl (cX9_restore_ok l E M f1) (cwV 0 hts gl_L_130 rfl rfl rfl cdX9_restore ⟨Nat.le_of_ble_eq_true rfl, Nat.le_of_ble_eq_true rfl⟩) rfl hl.1 rfl (Nat.le_of_ble_eq_true rfl) dL_law_794 hf hW hS rfl (fun H locs hW hS => ?_)
  refine lv_aload_n hx hb dL_law_797 rfl (lv_at hl 2 rfl) ?_
  refine wc_V (As := []) (rest := [.int r]) hx hb hml hown hts hG hV hZ (wlt_9 (rfl : wkd 70 = 9)) (q := (RX10, TX10, 31)) (wen_9 (rfl : wkd 70 = 9)) rfl (cX10_restore_ok l E M1 f2) (cwV 0 hts gl_L_133 rfl rfl rfl cdX10_restore ⟨Nat.le_of_ble_eq_true rfl, Nat.le_of_ble_eq_true rfl⟩) rfl hl.1 rfl (Nat.le_of_ble_eq_true rfl) dL_law_798 hf hW hS rfl (fun H locs hW hS => ?_)
  exact lv_icmp_eq (tgt := 829) hx hb dL_law_801 (by decide) (fun _ => kk _ H locs hI2 hW hS) (fun z => absurd rfl z)
set_option maxRecDepth 100000 in
set_option maxHeartbeats 4000000 in
theorem law_count (B : lB E p s m c b L xs) {i : Nat} (hi : i + 4 ≤ L) {M : wMem} {H : Heap} {locs : List Loc} {ls : Array Slot} (hI : wInv M) (hW : wH E M H) (hS : va_S (wA E) s.heap H locs) (hl : lv_has ls 4 [(0, .ref b), (1, .ref (wad E 0)), (2, .ref (wad E 70)), (3, .int (nI i))]) (hf : cells ≤ room_1.cells ∧ slots ≤ room_1.slots) (kk : ∀ (M' : wMem) (H' : Heap) (locs' : List Loc), wInv M' → wH E M' H' → va_S (wA E) s.heap H' locs' → W p l e room_1 s m #[Value.ref b] below meth c H' locs' cells slots Q (F0 m 829 ls [])) : W p l e room_1 s m #[Value.ref b] below meth c H locs cells slots Q (F0 m 806 ls []) := by
  obtain ⟨hx, hb, hml, hown, hts, hG, hV, hZ, hX, hbl, hbA, hL⟩ := id B
  obtain ⟨n0, L0, st0, hr0, t0, A0, R0, c0, p0, a0, o0, hJ⟩ := hI
  have h1 : vp_in (nI i + 1) L := by
    rw [show nI i + 1 = nI (i + 1) from nI_add i 1]
    exact vp_in_nI (by omega) (by omega)
  obtain ⟨r, f1, f2⟩ := k_count hJ (xs (nI i + 1).toNatClampNeg)
  replace f1 : fX9_count M (xs (nI i + 1).toNatClampNeg) = some r := f1
  replace f2 : fX10_count M (xs (nI i + 1).toNatClampNeg) = some r := f2
  have hI2 : wInv M := ⟨n0, L0, st0, hr0, t0, A0, R0, c0, p0, a0, o0, hJ⟩
  refine lv_aload_n hx hb dL_law_806 rfl (lv_at hl 1 rfl) ?_
  refine lv_aload_n hx hb dL_law_807 rfl (lv_at hl 0 rfl) ?_
  refine lv_iload_n hx hb dL_law_808 rfl (lv_at hl 3 rfl) ?_
  refine lv_iconst (v := 1) hx hb dL_law_809 (by decide) ?_
  refine lv_iadd hx hb dL_law_810 ?_
  refine va_sld hx hb hX hbl hbA hS h1 dL_law_811 ?_
  refine wc_V (As := [.int (xs (nI i + 1).toNatClampNeg)]) (rest := []) hx hb hml hown hts hG hV hZ (wlt_8 (rfl : wkd 0 = 8)) (q := (RX9, TX9, 10)) (wen_8 (rfl : wkd 0 = 8)) rfl (cX9_count_ok l E M (xs (nI i + 1).toNatClampNeg) f1) (cwV 1 hts gl_L_134 rfl rfl rfl cdX9_count ⟨Nat.le_of_ble_eq_true rfl, Nat.le_of_ble_eq_true rfl⟩) rfl hl.1 rfl (Nat.le_of_ble_eq_true rfl) dL_law_812 hf hW hS rfl (fun H locs hW hS => ?_)
  refine lv_aload_n hx hb dL_law_815 rfl (lv_at hl 2 rfl) ?_
  refine lv_aload_n hx hb dL_law_816 rfl (lv_at hl 0 rfl) ?_
  refine lv_iload_n hx hb dL_law_817 rfl (lv_at hl 3 rfl) ?_
  refine lv_iconst (v := 1) hx hb dL_law_818 (by decide) ?_
  refine lv_iadd hx hb dL_law_819 ?_
  refine va_sld hx hb hX hbl hbA hS h1 dL_law_820 ?_
  refine wc_V (As := [.int (xs (nI i + 1).toNatClampNeg)]) (rest := [.int r]) hx hb hml hown hts hG hV hZ (wlt_9 (rfl : wkd 70 = 9)) (q := (RX10, TX10, 31)) (wen_9 (rfl : wkd 70 = 9)) rfl (cX10_count_ok l E M (xs (nI i + 1).toNatClampNeg) f2) (cwV 1 hts gl_L_137 rfl rfl rfl cdX10_count ⟨Nat.le_of_ble_eq_true rfl, Nat.le_of_ble_eq_true rfl⟩) rfl hl.1 rfl (Nat.le_of_ble_eq_true rfl) dL_law_821 hf hW hS rfl (fun H locs hW hS => ?_)
  exact lv_icmp_eq (tgt := 829) hx hb dL_law_824 (by decide) (fun _ => kk _ H locs hI2 hW hS) (fun z => absurd rfl z)
set_option maxRecDepth 100000 in
set_option maxHeartbeats 4000000 in
theorem law_loop (B : lB E p s m c b L xs) (hf : cells ≤ room_1.cells ∧ slots ≤ room_1.slots) (fin : ∀ (H : Heap) (locs : List Loc) (ls : Array Slot), va_S (wA E) s.heap H locs → W p l e room_1 s m #[Value.ref b] below meth c H locs cells slots Q (F0 m 835 ls [])) : ∀ (n i : Nat), i ≤ L + 4 → L + 5 ≤ i + n → ∀ (M : wMem) (H : Heap) (locs : List Loc) (ls : Array Slot), wInv M → wH E M H → va_S (wA E) s.heap H locs → lv_has ls 4 [(0, .ref b), (1, .ref (wad E 0)), (2, .ref (wad E 70)), (3, .int (nI i))] → W p l e room_1 s m #[Value.ref b] below meth c H locs cells slots Q (F0 m 18 ls []) := by
  obtain ⟨hx, hb, hml, hown, hts, hG, hV, hZ, hX, hbl, hbA, hL⟩ := id B
  intro n
  induction n with
  | zero =>
    intro i h1 h2
    omega
  | succ n ih =>
    intro i hi hin M H locs ls hI hW hS hl
    refine lv_iload_n hx hb dL_law_18 rfl (lv_at hl 3 rfl) ?_
    refine lv_aload_n hx hb dL_law_19 rfl (lv_at hl 0 rfl) ?_
    refine va_slen hx hb hX hbl hbA hS dL_law_20 ?_
    refine lv_iconst (v := 4) hx hb dL_law_21 (by decide) ?_
    refine lv_isub hx hb dL_law_22 ?_
    refine lv_icmp_gt (tgt := 835) hx hb dL_law_23 (by decide) (fun _ => fin H locs ls hS) (fun q => ?_)
    have hi4 : i + 4 ≤ L := by
      have e1 := pk_sub_toInt (a := L) (b := 4) (by omega) (by omega)
      have q' : ¬ nI L - nI 4 < nI i := q
      rw [i_lt, e1, nI_toInt (by omega)] at q'
      omega
    have kk : ∀ (M' : wMem) (H' : Heap) (locs' : List Loc), wInv M' → wH E M' H' → va_S (wA E) s.heap H' locs' → W p l e room_1 s m #[Value.ref b] below meth c H' locs' cells slots Q (F0 m 829 ls []) := by
      intro M' H' locs' hI' hW' hS'
      refine lv_iinc (v := nI (i + 4)) (lv' := [(3, .int (nI (i + 4))), (0, .ref b), (1, .ref (wad E 0)), (2, .ref (wad E 70))]) hx hb dL_law_829 hl (k := 3) rfl (by rw [← nI_add]; rfl) (by decide) rfl (fun ls hl => ?_)
      refine lv_goto (tgt := 18) hx hb dL_law_832 (by decide) ?_
      exact ih (i + 4) (by omega) (by omega) M' H' locs' ls hI' hW' hS' (lv_sub hl [1, 2, 3, 0] rfl)
    refine lv_aload_n hx hb dL_law_26 rfl (lv_at hl 0 rfl) ?_
    refine lv_iload_n hx hb dL_law_27 rfl (lv_at hl 3 rfl) ?_
    refine va_sld hx hb hX hbl hbA hS (vp_in_nI (show i < L by omega) (by omega)) dL_law_28 ?_
    refine lv_bipush (v := 31) hx hb dL_law_29 (by decide) ?_
    refine lv_iand hx hb dL_law_31 ?_
    obtain ⟨j, hj, ej⟩ := pk_andE (xs (nI i).toNatClampNeg) (m := 31) 5 (by decide)
    rw [ej]
    have ji : (nI j).toInt = j := nI_toInt (by omega)
    rcases (show j = 0 ∨ j = 1 ∨ j = 2 ∨ j = 3 ∨ j = 4 ∨ j = 5 ∨ j = 6 ∨ j = 7 ∨ j = 8 ∨ j = 9 ∨ j = 10 ∨ j = 11 ∨ j = 12 ∨ j = 13 ∨ j = 14 ∨ j = 15 ∨ j = 16 ∨ j = 17 ∨ j = 18 ∨ j = 19 ∨ j = 20 ∨ j = 21 ∨ j = 22 ∨ j = 23 ∨ j = 24 ∨ j = 25 ∨ j = 26 ∨ j = 27 ∨ j = 28 ∨ j = 29 ∨ j = 30 ∨ j = 31 by omega) with rfl | rfl | rfl | rfl | rfl | rfl | rfl | rfl | rfl | rfl | rfl | rfl | rfl | rfl | rfl | rfl | rfl | rfl | rfl | rfl | rfl | rfl | rfl | rfl | rfl | rfl | rfl | rfl | rfl | rfl | rfl | rfl
    · exact lv_tableIn (tgt := 168) hx hb dL_law_32 (by decide) (by decide) (off := 136) (by decide) (by decide) (law_feed B hi4 hI hW hS hl hf kk)
    · exact lv_tableIn (tgt := 191) hx hb dL_law_32 (by decide) (by decide) (off := 159) (by decide) (by decide) (law_string B hi4 hI hW hS hl hf kk)
    · exact lv_tableIn (tgt := 204) hx hb dL_law_32 (by decide) (by decide) (off := 172) (by decide) (by decide) (law_lamp B hi4 hI hW hS hl hf kk)
    · exact lv_tableIn (tgt := 237) hx hb dL_law_32 (by decide) (by decide) (off := 205) (by decide) (by decide) (law_set B hi4 hI hW hS hl hf kk)
    · exact lv_tableIn (tgt := 270) hx hb dL_law_32 (by decide) (by decide) (off := 238) (by decide) (by decide) (law_flow B hi4 hI hW hS hl hf kk)
    · exact lv_tableIn (tgt := 283) hx hb dL_law_32 (by decide) (by decide) (off := 251) (by decide) (by decide) (law_hour B hi4 hI hW hS hl hf kk)
    · exact lv_tableIn (tgt := 296) hx hb dL_law_32 (by decide) (by decide) (off := 264) (by decide) (by decide) (law_swap B hi4 hI hW hS hl hf kk)
    · exact lv_tableIn (tgt := 319) hx hb dL_law_32 (by decide) (by decide) (off := 287) (by decide) (by decide) (law_meter B hi4 hI hW hS hl hf kk)
    · exact lv_tableIn (tgt := 352) hx hb dL_law_32 (by decide) (by decide) (off := 320) (by decide) (by decide) (law_finder B hi4 hI hW hS hl hf kk)
    · exact lv_tableIn (tgt := 375) hx hb dL_law_32 (by decide) (by decide) (off := 343) (by decide) (by decide) (law_touch B hi4 hI hW hS hl hf kk)
    · exact lv_tableIn (tgt := 398) hx hb dL_law_32 (by decide) (by decide) (off := 366) (by decide) (by decide) (law_find B hi4 hI hW hS hl hf kk)
    · exact lv_tableIn (tgt := 441) hx hb dL_law_32 (by decide) (by decide) (off := 409) (by decide) (by decide) (law_look B hi4 hI hW hS hl hf kk)
    · exact lv_tableIn (tgt := 484) hx hb dL_law_32 (by decide) (by decide) (off := 452) (by decide) (by decide) (law_order B hi4 hI hW hS hl hf kk)
    · exact lv_tableIn (tgt := 507) hx hb dL_law_32 (by decide) (by decide) (off := 475) (by decide) (by decide) (law_orderSum B hi4 hI hW hS hl hf kk)
    · exact lv_tableIn (tgt := 520) hx hb dL_law_32 (by decide) (by decide) (off := 488) (by decide) (by decide) (law_told B hi4 hI hW hS hl hf kk)
    · exact lv_tableIn (tgt := 553) hx hb dL_law_32 (by decide) (by decide) (off := 521) (by decide) (by decide) (law_openTo B hi4 hI hW hS hl hf kk)
    · exact lv_tableIn (tgt := 566) hx hb dL_law_32 (by decide) (by decide) (off := 534) (by decide) (by decide) (law_judge B hi4 hI hW hS hl hf kk)
    · exact lv_tableIn (tgt := 579) hx hb dL_law_32 (by decide) (by decide) (off := 547) (by decide) (by decide) (law_lasts B hi4 hI hW hS hl hf kk)
    · exact lv_tableIn (tgt := 592) hx hb dL_law_32 (by decide) (by decide) (off := 560) (by decide) (by decide) (law_next B hi4 hI hW hS hl hf kk)
    · exact lv_tableIn (tgt := 615) hx hb dL_law_32 (by decide) (by decide) (off := 583) (by decide) (by decide) (law_bridged B hi4 hI hW hS hl hf kk)
    · exact lv_tableIn (tgt := 638) hx hb dL_law_32 (by decide) (by decide) (off := 606) (by decide) (by decide) (law_stop B hi4 hI hW hS hl hf kk)
    · exact lv_tableIn (tgt := 651) hx hb dL_law_32 (by decide) (by decide) (off := 619) (by decide) (by decide) (law_light B hi4 hI hW hS hl hf kk)
    · exact lv_tableIn (tgt := 674) hx hb dL_law_32 (by decide) (by decide) (off := 642) (by decide) (by decide) (law_keeps B hi4 hI hW hS hl hf kk)
    · exact lv_tableIn (tgt := 697) hx hb dL_law_32 (by decide) (by decide) (off := 665) (by decide) (by decide) (law_allAnew B hi4 hI hW hS hl hf kk)
    · exact lv_tableIn (tgt := 710) hx hb dL_law_32 (by decide) (by decide) (off := 678) (by decide) (by decide) (law_joined B hi4 hI hW hS hl hf kk)
    · exact lv_tableIn (tgt := 723) hx hb dL_law_32 (by decide) (by decide) (off := 691) (by decide) (by decide) (law_two B hi4 hI hW hS hl hf kk)
    · exact lv_tableIn (tgt := 747) hx hb dL_law_32 (by decide) (by decide) (off := 715) (by decide) (by decide) (law_seeds B hi4 hI hW hS hl hf kk)
    · exact lv_tableIn (tgt := 780) hx hb dL_law_32 (by decide) (by decide) (off := 748) (by decide) (by decide) (law_image B hi4 hI hW hS hl hf kk)
    · exact lv_tableIn (tgt := 793) hx hb dL_law_32 (by decide) (by decide) (off := 761) (by decide) (by decide) (law_restore B hi4 hI hW hS hl hf kk)
    · exact lv_tableIn (tgt := 806) hx hb dL_law_32 (by decide) (by decide) (off := 774) (by decide) (by decide) (law_count B hi4 hI hW hS hl hf kk)
    · exact lv_tableOut (tgt := 829) hx hb dL_law_32 (by decide) (by decide) (kk M H locs hI hW hS)
    · exact lv_tableOut (tgt := 829) hx hb dL_law_32 (by decide) (by decide) (kk M H locs hI hW hS)
end
