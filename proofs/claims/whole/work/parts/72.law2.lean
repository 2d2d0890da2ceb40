theorem lqm_X2_fresh : mW M_X2_fresh ∈ lw_good := lw_gmem 159 (by decide +kernel) rfl
theorem lqi_X2_fresh : Cond.instanceMethod yX2_fresh ∈ lw_good := lw_gmem 157 (by decide +kernel) rfl
theorem lqs_X2_fresh : Cond.selects RX2 yX2_fresh yX2_fresh ∈ lw_good := lw_gmem 158 (by decide +kernel) rfl
theorem lqn_X2 : Cond.initialized RX2 ∈ lw_good := lw_gmem 48 (by decide +kernel) rfl
theorem lql_13 : Cond.methodLink R_law 13 yX2_fresh ∈ lw_good := lw_gmem 156 (by decide +kernel) rfl
theorem lqm_X3_fresh : mW M_X3_fresh ∈ lw_good := lw_gmem 466 (by decide +kernel) rfl
theorem lqi_X3_fresh : Cond.instanceMethod yX3_fresh ∈ lw_good := lw_gmem 464 (by decide +kernel) rfl
theorem lqs_X3_fresh : Cond.selects RX3 yX3_fresh yX3_fresh ∈ lw_good := lw_gmem 465 (by decide +kernel) rfl
theorem lqn_X3 : Cond.initialized RX3 ∈ lw_good := lw_gmem 53 (by decide +kernel) rfl
theorem lql_17 : Cond.methodLink R_law 17 yX3_fresh ∈ lw_good := lw_gmem 527 (by decide +kernel) rfl
theorem lqm_X2_constant : mW M_X2_constant ∈ lw_good := lw_gmem 163 (by decide +kernel) rfl
theorem lqi_X2_constant : Cond.instanceMethod yX2_constant ∈ lw_good := lw_gmem 161 (by decide +kernel) rfl
theorem lqs_X2_constant : Cond.selects RX2 yX2_constant yX2_constant ∈ lw_good := lw_gmem 162 (by decide +kernel) rfl
theorem lql_18 : Cond.methodLink R_law 18 yX2_constant ∈ lw_good := lw_gmem 160 (by decide +kernel) rfl
theorem lqm_X3_constant : mW M_X3_constant ∈ lw_good := lw_gmem 531 (by decide +kernel) rfl
theorem lqi_X3_constant : Cond.instanceMethod yX3_constant ∈ lw_good := lw_gmem 529 (by decide +kernel) rfl
theorem lqs_X3_constant : Cond.selects RX3 yX3_constant yX3_constant ∈ lw_good := lw_gmem 530 (by decide +kernel) rfl
theorem lql_22 : Cond.methodLink R_law 22 yX3_constant ∈ lw_good := lw_gmem 528 (by decide +kernel) rfl
theorem lqm_X2_letter : mW M_X2_letter ∈ lw_good := lw_gmem 176 (by decide +kernel) rfl
theorem lqi_X2_letter : Cond.instanceMethod yX2_letter ∈ lw_good := lw_gmem 174 (by decide +kernel) rfl
theorem lqs_X2_letter : Cond.selects RX2 yX2_letter yX2_letter ∈ lw_good := lw_gmem 175 (by decide +kernel) rfl
theorem lql_23 : Cond.methodLink R_law 23 yX2_letter ∈ lw_good := lw_gmem 173 (by decide +kernel) rfl
theorem lqm_X3_letter : mW M_X3_letter ∈ lw_good := lw_gmem 539 (by decide +kernel) rfl
theorem lqi_X3_letter : Cond.instanceMethod yX3_letter ∈ lw_good := lw_gmem 537 (by decide +kernel) rfl
theorem lqs_X3_letter : Cond.selects RX3 yX3_letter yX3_letter ∈ lw_good := lw_gmem 538 (by decide +kernel) rfl
theorem lql_27 : Cond.methodLink R_law 27 yX3_letter ∈ lw_good := lw_gmem 536 (by decide +kernel) rfl
theorem lqm_X2_join : mW M_X2_join ∈ lw_good := lw_gmem 247 (by decide +kernel) rfl
theorem lqi_X2_join : Cond.instanceMethod yX2_join ∈ lw_good := lw_gmem 245 (by decide +kernel) rfl
theorem lqs_X2_join : Cond.selects RX2 yX2_join yX2_join ∈ lw_good := lw_gmem 246 (by decide +kernel) rfl
theorem lql_28 : Cond.methodLink R_law 28 yX2_join ∈ lw_good := lw_gmem 244 (by decide +kernel) rfl
theorem lqm_X3_join : mW M_X3_join ∈ lw_good := lw_gmem 569 (by decide +kernel) rfl
theorem lqi_X3_join : Cond.instanceMethod yX3_join ∈ lw_good := lw_gmem 567 (by decide +kernel) rfl
theorem lqs_X3_join : Cond.selects RX3 yX3_join yX3_join ∈ lw_good := lw_gmem 568 (by decide +kernel) rfl
theorem lql_32 : Cond.methodLink R_law 32 yX3_join ∈ lw_good := lw_gmem 566 (by decide +kernel) rfl
theorem lqm_X2_fork : mW M_X2_fork ∈ lw_good := lw_gmem 254 (by decide +kernel) rfl
theorem lqi_X2_fork : Cond.instanceMethod yX2_fork ∈ lw_good := lw_gmem 252 (by decide +kernel) rfl
theorem lqs_X2_fork : Cond.selects RX2 yX2_fork yX2_fork ∈ lw_good := lw_gmem 253 (by decide +kernel) rfl
theorem lql_33 : Cond.methodLink R_law 33 yX2_fork ∈ lw_good := lw_gmem 251 (by decide +kernel) rfl
theorem lqm_X3_fork : mW M_X3_fork ∈ lw_good := lw_gmem 573 (by decide +kernel) rfl
theorem lqi_X3_fork : Cond.instanceMethod yX3_fork ∈ lw_good := lw_gmem 571 (by decide +kernel) rfl
theorem lqs_X3_fork : Cond.selects RX3 yX3_fork yX3_fork ∈ lw_good := lw_gmem 572 (by decide +kernel) rfl
theorem lql_36 : Cond.methodLink R_law 36 yX3_fork ∈ lw_good := lw_gmem 570 (by decide +kernel) rfl
theorem lqm_X2_fix : mW M_X2_fix ∈ lw_good := lw_gmem 261 (by decide +kernel) rfl
theorem lqi_X2_fix : Cond.instanceMethod yX2_fix ∈ lw_good := lw_gmem 259 (by decide +kernel) rfl
theorem lqs_X2_fix : Cond.selects RX2 yX2_fix yX2_fix ∈ lw_good := lw_gmem 260 (by decide +kernel) rfl
theorem lql_37 : Cond.methodLink R_law 37 yX2_fix ∈ lw_good := lw_gmem 258 (by decide +kernel) rfl
theorem lqm_X3_fix : mW M_X3_fix ∈ lw_good := lw_gmem 577 (by decide +kernel) rfl
theorem lqi_X3_fix : Cond.instanceMethod yX3_fix ∈ lw_good := lw_gmem 575 (by decide +kernel) rfl
theorem lqs_X3_fix : Cond.selects RX3 yX3_fix yX3_fix ∈ lw_good := lw_gmem 576 (by decide +kernel) rfl
theorem lql_41 : Cond.methodLink R_law 41 yX3_fix ∈ lw_good := lw_gmem 574 (by decide +kernel) rfl
theorem lqm_X2_put : mW M_X2_put ∈ lw_good := lw_gmem 268 (by decide +kernel) rfl
theorem lqi_X2_put : Cond.instanceMethod yX2_put ∈ lw_good := lw_gmem 266 (by decide +kernel) rfl
theorem lqs_X2_put : Cond.selects RX2 yX2_put yX2_put ∈ lw_good := lw_gmem 267 (by decide +kernel) rfl
theorem lql_42 : Cond.methodLink R_law 42 yX2_put ∈ lw_good := lw_gmem 265 (by decide +kernel) rfl
theorem lqm_X3_put : mW M_X3_put ∈ lw_good := lw_gmem 584 (by decide +kernel) rfl
theorem lqi_X3_put : Cond.instanceMethod yX3_put ∈ lw_good := lw_gmem 582 (by decide +kernel) rfl
theorem lqs_X3_put : Cond.selects RX3 yX3_put yX3_put ∈ lw_good := lw_gmem 583 (by decide +kernel) rfl
theorem lql_45 : Cond.methodLink R_law 45 yX3_put ∈ lw_good := lw_gmem 581 (by decide +kernel) rfl
theorem lqm_X2_sum : mW M_X2_sum ∈ lw_good := lw_gmem 272 (by decide +kernel) rfl
theorem lqi_X2_sum : Cond.instanceMethod yX2_sum ∈ lw_good := lw_gmem 270 (by decide +kernel) rfl
theorem lqs_X2_sum : Cond.selects RX2 yX2_sum yX2_sum ∈ lw_good := lw_gmem 271 (by decide +kernel) rfl
theorem lql_46 : Cond.methodLink R_law 46 yX2_sum ∈ lw_good := lw_gmem 269 (by decide +kernel) rfl
theorem lqm_X3_sum : mW M_X3_sum ∈ lw_good := lw_gmem 588 (by decide +kernel) rfl
theorem lqi_X3_sum : Cond.instanceMethod yX3_sum ∈ lw_good := lw_gmem 586 (by decide +kernel) rfl
theorem lqs_X3_sum : Cond.selects RX3 yX3_sum yX3_sum ∈ lw_good := lw_gmem 587 (by decide +kernel) rfl
theorem lql_49 : Cond.methodLink R_law 49 yX3_sum ∈ lw_good := lw_gmem 585 (by decide +kernel) rfl
theorem lqm_X2_trade : mW M_X2_trade ∈ lw_good := lw_gmem 288 (by decide +kernel) rfl
theorem lqi_X2_trade : Cond.instanceMethod yX2_trade ∈ lw_good := lw_gmem 286 (by decide +kernel) rfl
theorem lqs_X2_trade : Cond.selects RX2 yX2_trade yX2_trade ∈ lw_good := lw_gmem 287 (by decide +kernel) rfl
theorem lql_50 : Cond.methodLink R_law 50 yX2_trade ∈ lw_good := lw_gmem 285 (by decide +kernel) rfl
theorem lqm_X3_trade : mW M_X3_trade ∈ lw_good := lw_gmem 592 (by decide +kernel) rfl
theorem lqi_X3_trade : Cond.instanceMethod yX3_trade ∈ lw_good := lw_gmem 590 (by decide +kernel) rfl
theorem lqs_X3_trade : Cond.selects RX3 yX3_trade yX3_trade ∈ lw_good := lw_gmem 591 (by decide +kernel) rfl
theorem lql_53 : Cond.methodLink R_law 53 yX3_trade ∈ lw_good := lw_gmem 589 (by decide +kernel) rfl
theorem lqm_X2_near : mW M_X2_near ∈ lw_good := lw_gmem 308 (by decide +kernel) rfl
theorem lqi_X2_near : Cond.instanceMethod yX2_near ∈ lw_good := lw_gmem 306 (by decide +kernel) rfl
theorem lqs_X2_near : Cond.selects RX2 yX2_near yX2_near ∈ lw_good := lw_gmem 307 (by decide +kernel) rfl
theorem lql_54 : Cond.methodLink R_law 54 yX2_near ∈ lw_good := lw_gmem 305 (by decide +kernel) rfl
theorem lqm_X3_near : mW M_X3_near ∈ lw_good := lw_gmem 596 (by decide +kernel) rfl
theorem lqi_X3_near : Cond.instanceMethod yX3_near ∈ lw_good := lw_gmem 594 (by decide +kernel) rfl
theorem lqs_X3_near : Cond.selects RX3 yX3_near yX3_near ∈ lw_good := lw_gmem 595 (by decide +kernel) rfl
theorem lql_58 : Cond.methodLink R_law 58 yX3_near ∈ lw_good := lw_gmem 593 (by decide +kernel) rfl
theorem lqm_X2_copy : mW M_X2_copy ∈ lw_good := lw_gmem 326 (by decide +kernel) rfl
theorem lqi_X2_copy : Cond.instanceMethod yX2_copy ∈ lw_good := lw_gmem 324 (by decide +kernel) rfl
theorem lqs_X2_copy : Cond.selects RX2 yX2_copy yX2_copy ∈ lw_good := lw_gmem 325 (by decide +kernel) rfl
theorem lql_59 : Cond.methodLink R_law 59 yX2_copy ∈ lw_good := lw_gmem 323 (by decide +kernel) rfl
theorem lqm_X3_copy : mW M_X3_copy ∈ lw_good := lw_gmem 612 (by decide +kernel) rfl
theorem lqi_X3_copy : Cond.instanceMethod yX3_copy ∈ lw_good := lw_gmem 610 (by decide +kernel) rfl
theorem lqs_X3_copy : Cond.selects RX3 yX3_copy yX3_copy ∈ lw_good := lw_gmem 611 (by decide +kernel) rfl
theorem lql_62 : Cond.methodLink R_law 62 yX3_copy ∈ lw_good := lw_gmem 609 (by decide +kernel) rfl
theorem lqm_X2_swap : mW M_X2_swap ∈ lw_good := lw_gmem 330 (by decide +kernel) rfl
theorem lqi_X2_swap : Cond.instanceMethod yX2_swap ∈ lw_good := lw_gmem 328 (by decide +kernel) rfl
theorem lqs_X2_swap : Cond.selects RX2 yX2_swap yX2_swap ∈ lw_good := lw_gmem 329 (by decide +kernel) rfl
theorem lql_63 : Cond.methodLink R_law 63 yX2_swap ∈ lw_good := lw_gmem 327 (by decide +kernel) rfl
theorem lqm_X3_swap : mW M_X3_swap ∈ lw_good := lw_gmem 616 (by decide +kernel) rfl
theorem lqi_X3_swap : Cond.instanceMethod yX3_swap ∈ lw_good := lw_gmem 614 (by decide +kernel) rfl
theorem lqs_X3_swap : Cond.selects RX3 yX3_swap yX3_swap ∈ lw_good := lw_gmem 615 (by decide +kernel) rfl
theorem lql_67 : Cond.methodLink R_law 67 yX3_swap ∈ lw_good := lw_gmem 613 (by decide +kernel) rfl
theorem lqm_X2_sift : mW M_X2_sift ∈ lw_good := lw_gmem 346 (by decide +kernel) rfl
theorem lqi_X2_sift : Cond.instanceMethod yX2_sift ∈ lw_good := lw_gmem 344 (by decide +kernel) rfl
theorem lqs_X2_sift : Cond.selects RX2 yX2_sift yX2_sift ∈ lw_good := lw_gmem 345 (by decide +kernel) rfl
theorem lql_68 : Cond.methodLink R_law 68 yX2_sift ∈ lw_good := lw_gmem 343 (by decide +kernel) rfl
theorem lqm_X3_sift : mW M_X3_sift ∈ lw_good := lw_gmem 620 (by decide +kernel) rfl
theorem lqi_X3_sift : Cond.instanceMethod yX3_sift ∈ lw_good := lw_gmem 618 (by decide +kernel) rfl
theorem lqs_X3_sift : Cond.selects RX3 yX3_sift yX3_sift ∈ lw_good := lw_gmem 619 (by decide +kernel) rfl
theorem lql_71 : Cond.methodLink R_law 71 yX3_sift ∈ lw_good := lw_gmem 617 (by decide +kernel) rfl
theorem lqm_X2_cost : mW M_X2_cost ∈ lw_good := lw_gmem 360 (by decide +kernel) rfl
theorem lqi_X2_cost : Cond.instanceMethod yX2_cost ∈ lw_good := lw_gmem 358 (by decide +kernel) rfl
theorem lqs_X2_cost : Cond.selects RX2 yX2_cost yX2_cost ∈ lw_good := lw_gmem 359 (by decide +kernel) rfl
theorem lql_72 : Cond.methodLink R_law 72 yX2_cost ∈ lw_good := lw_gmem 357 (by decide +kernel) rfl
theorem lqm_X3_cost : mW M_X3_cost ∈ lw_good := lw_gmem 629 (by decide +kernel) rfl
theorem lqi_X3_cost : Cond.instanceMethod yX3_cost ∈ lw_good := lw_gmem 627 (by decide +kernel) rfl
theorem lqs_X3_cost : Cond.selects RX3 yX3_cost yX3_cost ∈ lw_good := lw_gmem 628 (by decide +kernel) rfl
theorem lql_75 : Cond.methodLink R_law 75 yX3_cost ∈ lw_good := lw_gmem 626 (by decide +kernel) rfl
theorem lqm_X2_same : mW M_X2_same ∈ lw_good := lw_gmem 365 (by decide +kernel) rfl
theorem lqi_X2_same : Cond.instanceMethod yX2_same ∈ lw_good := lw_gmem 363 (by decide +kernel) rfl
theorem lqs_X2_same : Cond.selects RX2 yX2_same yX2_same ∈ lw_good := lw_gmem 364 (by decide +kernel) rfl
theorem lql_76 : Cond.methodLink R_law 76 yX2_same ∈ lw_good := lw_gmem 362 (by decide +kernel) rfl
theorem lqm_X3_same : mW M_X3_same ∈ lw_good := lw_gmem 634 (by decide +kernel) rfl
theorem lqi_X3_same : Cond.instanceMethod yX3_same ∈ lw_good := lw_gmem 632 (by decide +kernel) rfl
theorem lqs_X3_same : Cond.selects RX3 yX3_same yX3_same ∈ lw_good := lw_gmem 633 (by decide +kernel) rfl
theorem lql_79 : Cond.methodLink R_law 79 yX3_same ∈ lw_good := lw_gmem 631 (by decide +kernel) rfl
theorem lqm_X2_tells : mW M_X2_tells ∈ lw_good := lw_gmem 370 (by decide +kernel) rfl
theorem lqi_X2_tells : Cond.instanceMethod yX2_tells ∈ lw_good := lw_gmem 368 (by decide +kernel) rfl
theorem lqs_X2_tells : Cond.selects RX2 yX2_tells yX2_tells ∈ lw_good := lw_gmem 369 (by decide +kernel) rfl
theorem lql_80 : Cond.methodLink R_law 80 yX2_tells ∈ lw_good := lw_gmem 367 (by decide +kernel) rfl
theorem lqm_X3_tells : mW M_X3_tells ∈ lw_good := lw_gmem 638 (by decide +kernel) rfl
theorem lqi_X3_tells : Cond.instanceMethod yX3_tells ∈ lw_good := lw_gmem 636 (by decide +kernel) rfl
theorem lqs_X3_tells : Cond.selects RX3 yX3_tells yX3_tells ∈ lw_good := lw_gmem 637 (by decide +kernel) rfl
theorem lql_83 : Cond.methodLink R_law 83 yX3_tells ∈ lw_good := lw_gmem 635 (by decide +kernel) rfl
theorem lqm_X2_many : mW M_X2_many ∈ lw_good := lw_gmem 378 (by decide +kernel) rfl
theorem lqi_X2_many : Cond.instanceMethod yX2_many ∈ lw_good := lw_gmem 376 (by decide +kernel) rfl
theorem lqs_X2_many : Cond.selects RX2 yX2_many yX2_many ∈ lw_good := lw_gmem 377 (by decide +kernel) rfl
theorem lql_84 : Cond.methodLink R_law 84 yX2_many ∈ lw_good := lw_gmem 375 (by decide +kernel) rfl
theorem lqm_X3_many : mW M_X3_many ∈ lw_good := lw_gmem 642 (by decide +kernel) rfl
theorem lqi_X3_many : Cond.instanceMethod yX3_many ∈ lw_good := lw_gmem 640 (by decide +kernel) rfl
theorem lqs_X3_many : Cond.selects RX3 yX3_many yX3_many ∈ lw_good := lw_gmem 641 (by decide +kernel) rfl
theorem lql_87 : Cond.methodLink R_law 87 yX3_many ∈ lw_good := lw_gmem 639 (by decide +kernel) rfl
theorem lqm_X2_pick : mW M_X2_pick ∈ lw_good := lw_gmem 388 (by decide +kernel) rfl
theorem lqi_X2_pick : Cond.instanceMethod yX2_pick ∈ lw_good := lw_gmem 386 (by decide +kernel) rfl
theorem lqs_X2_pick : Cond.selects RX2 yX2_pick yX2_pick ∈ lw_good := lw_gmem 387 (by decide +kernel) rfl
theorem lql_88 : Cond.methodLink R_law 88 yX2_pick ∈ lw_good := lw_gmem 385 (by decide +kernel) rfl
theorem lqm_X3_pick : mW M_X3_pick ∈ lw_good := lw_gmem 646 (by decide +kernel) rfl
theorem lqi_X3_pick : Cond.instanceMethod yX3_pick ∈ lw_good := lw_gmem 644 (by decide +kernel) rfl
theorem lqs_X3_pick : Cond.selects RX3 yX3_pick yX3_pick ∈ lw_good := lw_gmem 645 (by decide +kernel) rfl
theorem lql_91 : Cond.methodLink R_law 91 yX3_pick ∈ lw_good := lw_gmem 643 (by decide +kernel) rfl
theorem lqm_X2_cheapest : mW M_X2_cheapest ∈ lw_good := lw_gmem 399 (by decide +kernel) rfl
theorem lqi_X2_cheapest : Cond.instanceMethod yX2_cheapest ∈ lw_good := lw_gmem 397 (by decide +kernel) rfl
theorem lqs_X2_cheapest : Cond.selects RX2 yX2_cheapest yX2_cheapest ∈ lw_good := lw_gmem 398 (by decide +kernel) rfl
theorem lql_92 : Cond.methodLink R_law 92 yX2_cheapest ∈ lw_good := lw_gmem 396 (by decide +kernel) rfl
theorem lqm_X3_cheapest : mW M_X3_cheapest ∈ lw_good := lw_gmem 650 (by decide +kernel) rfl
theorem lqi_X3_cheapest : Cond.instanceMethod yX3_cheapest ∈ lw_good := lw_gmem 648 (by decide +kernel) rfl
theorem lqs_X3_cheapest : Cond.selects RX3 yX3_cheapest yX3_cheapest ∈ lw_good := lw_gmem 649 (by decide +kernel) rfl
theorem lql_95 : Cond.methodLink R_law 95 yX3_cheapest ∈ lw_good := lw_gmem 647 (by decide +kernel) rfl
theorem lqm_X2_dearest : mW M_X2_dearest ∈ lw_good := lw_gmem 407 (by decide +kernel) rfl
theorem lqi_X2_dearest : Cond.instanceMethod yX2_dearest ∈ lw_good := lw_gmem 405 (by decide +kernel) rfl
theorem lqs_X2_dearest : Cond.selects RX2 yX2_dearest yX2_dearest ∈ lw_good := lw_gmem 406 (by decide +kernel) rfl
theorem lql_96 : Cond.methodLink R_law 96 yX2_dearest ∈ lw_good := lw_gmem 404 (by decide +kernel) rfl
theorem lqm_X3_dearest : mW M_X3_dearest ∈ lw_good := lw_gmem 658 (by decide +kernel) rfl
theorem lqi_X3_dearest : Cond.instanceMethod yX3_dearest ∈ lw_good := lw_gmem 656 (by decide +kernel) rfl
theorem lqs_X3_dearest : Cond.selects RX3 yX3_dearest yX3_dearest ∈ lw_good := lw_gmem 657 (by decide +kernel) rfl
theorem lql_99 : Cond.methodLink R_law 99 yX3_dearest ∈ lw_good := lw_gmem 655 (by decide +kernel) rfl
theorem lqm_X2_letters : mW M_X2_letters ∈ lw_good := lw_gmem 411 (by decide +kernel) rfl
theorem lqi_X2_letters : Cond.instanceMethod yX2_letters ∈ lw_good := lw_gmem 409 (by decide +kernel) rfl
theorem lqs_X2_letters : Cond.selects RX2 yX2_letters yX2_letters ∈ lw_good := lw_gmem 410 (by decide +kernel) rfl
theorem lql_100 : Cond.methodLink R_law 100 yX2_letters ∈ lw_good := lw_gmem 408 (by decide +kernel) rfl
theorem lqm_X3_letters : mW M_X3_letters ∈ lw_good := lw_gmem 663 (by decide +kernel) rfl
theorem lqi_X3_letters : Cond.instanceMethod yX3_letters ∈ lw_good := lw_gmem 661 (by decide +kernel) rfl
theorem lqs_X3_letters : Cond.selects RX3 yX3_letters yX3_letters ∈ lw_good := lw_gmem 662 (by decide +kernel) rfl
theorem lql_103 : Cond.methodLink R_law 103 yX3_letters ∈ lw_good := lw_gmem 660 (by decide +kernel) rfl
theorem lqm_X2_size : mW M_X2_size ∈ lw_good := lw_gmem 419 (by decide +kernel) rfl
theorem lqi_X2_size : Cond.instanceMethod yX2_size ∈ lw_good := lw_gmem 417 (by decide +kernel) rfl
theorem lqs_X2_size : Cond.selects RX2 yX2_size yX2_size ∈ lw_good := lw_gmem 418 (by decide +kernel) rfl
theorem lql_104 : Cond.methodLink R_law 104 yX2_size ∈ lw_good := lw_gmem 416 (by decide +kernel) rfl
theorem lqm_X3_size : mW M_X3_size ∈ lw_good := lw_gmem 671 (by decide +kernel) rfl
theorem lqi_X3_size : Cond.instanceMethod yX3_size ∈ lw_good := lw_gmem 669 (by decide +kernel) rfl
theorem lqs_X3_size : Cond.selects RX3 yX3_size yX3_size ∈ lw_good := lw_gmem 670 (by decide +kernel) rfl
theorem lql_107 : Cond.methodLink R_law 107 yX3_size ∈ lw_good := lw_gmem 668 (by decide +kernel) rfl
theorem lqm_X2_width : mW M_X2_width ∈ lw_good := lw_gmem 427 (by decide +kernel) rfl
theorem lqi_X2_width : Cond.instanceMethod yX2_width ∈ lw_good := lw_gmem 425 (by decide +kernel) rfl
theorem lqs_X2_width : Cond.selects RX2 yX2_width yX2_width ∈ lw_good := lw_gmem 426 (by decide +kernel) rfl
theorem lql_108 : Cond.methodLink R_law 108 yX2_width ∈ lw_good := lw_gmem 424 (by decide +kernel) rfl
theorem lqm_X3_width : mW M_X3_width ∈ lw_good := lw_gmem 675 (by decide +kernel) rfl
theorem lqi_X3_width : Cond.instanceMethod yX3_width ∈ lw_good := lw_gmem 673 (by decide +kernel) rfl
theorem lqs_X3_width : Cond.selects RX3 yX3_width yX3_width ∈ lw_good := lw_gmem 674 (by decide +kernel) rfl
theorem lql_111 : Cond.methodLink R_law 111 yX3_width ∈ lw_good := lw_gmem 672 (by decide +kernel) rfl
theorem lqm_X2_point : mW M_X2_point ∈ lw_good := lw_gmem 431 (by decide +kernel) rfl
theorem lqi_X2_point : Cond.instanceMethod yX2_point ∈ lw_good := lw_gmem 429 (by decide +kernel) rfl
theorem lqs_X2_point : Cond.selects RX2 yX2_point yX2_point ∈ lw_good := lw_gmem 430 (by decide +kernel) rfl
theorem lql_112 : Cond.methodLink R_law 112 yX2_point ∈ lw_good := lw_gmem 428 (by decide +kernel) rfl
theorem lqm_X3_point : mW M_X3_point ∈ lw_good := lw_gmem 679 (by decide +kernel) rfl
theorem lqi_X3_point : Cond.instanceMethod yX3_point ∈ lw_good := lw_gmem 677 (by decide +kernel) rfl
theorem lqs_X3_point : Cond.selects RX3 yX3_point yX3_point ∈ lw_good := lw_gmem 678 (by decide +kernel) rfl
theorem lql_115 : Cond.methodLink R_law 115 yX3_point ∈ lw_good := lw_gmem 676 (by decide +kernel) rfl
theorem lqm_X2_go : mW M_X2_go ∈ lw_good := lw_gmem 435 (by decide +kernel) rfl
theorem lqi_X2_go : Cond.instanceMethod yX2_go ∈ lw_good := lw_gmem 433 (by decide +kernel) rfl
theorem lqs_X2_go : Cond.selects RX2 yX2_go yX2_go ∈ lw_good := lw_gmem 434 (by decide +kernel) rfl
theorem lql_116 : Cond.methodLink R_law 116 yX2_go ∈ lw_good := lw_gmem 432 (by decide +kernel) rfl
theorem lqm_X3_go : mW M_X3_go ∈ lw_good := lw_gmem 683 (by decide +kernel) rfl
theorem lqi_X3_go : Cond.instanceMethod yX3_go ∈ lw_good := lw_gmem 681 (by decide +kernel) rfl
theorem lqs_X3_go : Cond.selects RX3 yX3_go yX3_go ∈ lw_good := lw_gmem 682 (by decide +kernel) rfl
theorem lql_120 : Cond.methodLink R_law 120 yX3_go ∈ lw_good := lw_gmem 680 (by decide +kernel) rfl
theorem lqm_X2_at : mW M_X2_at ∈ lw_good := lw_gmem 443 (by decide +kernel) rfl
theorem lqi_X2_at : Cond.instanceMethod yX2_at ∈ lw_good := lw_gmem 441 (by decide +kernel) rfl
theorem lqs_X2_at : Cond.selects RX2 yX2_at yX2_at ∈ lw_good := lw_gmem 442 (by decide +kernel) rfl
theorem lql_121 : Cond.methodLink R_law 121 yX2_at ∈ lw_good := lw_gmem 440 (by decide +kernel) rfl
theorem lqm_X3_at : mW M_X3_at ∈ lw_good := lw_gmem 691 (by decide +kernel) rfl
theorem lqi_X3_at : Cond.instanceMethod yX3_at ∈ lw_good := lw_gmem 689 (by decide +kernel) rfl
theorem lqs_X3_at : Cond.selects RX3 yX3_at yX3_at ∈ lw_good := lw_gmem 690 (by decide +kernel) rfl
theorem lql_125 : Cond.methodLink R_law 125 yX3_at ∈ lw_good := lw_gmem 688 (by decide +kernel) rfl
theorem lqm_X2_level : mW M_X2_level ∈ lw_good := lw_gmem 447 (by decide +kernel) rfl
theorem lqi_X2_level : Cond.instanceMethod yX2_level ∈ lw_good := lw_gmem 445 (by decide +kernel) rfl
theorem lqs_X2_level : Cond.selects RX2 yX2_level yX2_level ∈ lw_good := lw_gmem 446 (by decide +kernel) rfl
theorem lql_126 : Cond.methodLink R_law 126 yX2_level ∈ lw_good := lw_gmem 444 (by decide +kernel) rfl
theorem lqm_X3_level : mW M_X3_level ∈ lw_good := lw_gmem 695 (by decide +kernel) rfl
theorem lqi_X3_level : Cond.instanceMethod yX3_level ∈ lw_good := lw_gmem 693 (by decide +kernel) rfl
theorem lqs_X3_level : Cond.selects RX3 yX3_level yX3_level ∈ lw_good := lw_gmem 694 (by decide +kernel) rfl
theorem lql_129 : Cond.methodLink R_law 129 yX3_level ∈ lw_good := lw_gmem 692 (by decide +kernel) rfl
theorem lqm_X2_count : mW M_X2_count ∈ lw_good := lw_gmem 451 (by decide +kernel) rfl
theorem lqi_X2_count : Cond.instanceMethod yX2_count ∈ lw_good := lw_gmem 449 (by decide +kernel) rfl
theorem lqs_X2_count : Cond.selects RX2 yX2_count yX2_count ∈ lw_good := lw_gmem 450 (by decide +kernel) rfl
theorem lql_130 : Cond.methodLink R_law 130 yX2_count ∈ lw_good := lw_gmem 448 (by decide +kernel) rfl
theorem lqm_X3_count : mW M_X3_count ∈ lw_good := lw_gmem 699 (by decide +kernel) rfl
theorem lqi_X3_count : Cond.instanceMethod yX3_count ∈ lw_good := lw_gmem 697 (by decide +kernel) rfl
theorem lqs_X3_count : Cond.selects RX3 yX3_count yX3_count ∈ lw_good := lw_gmem 698 (by decide +kernel) rfl
theorem lql_133 : Cond.methodLink R_law 133 yX3_count ∈ lw_good := lw_gmem 696 (by decide +kernel) rfl
section CASES
variable {g : Ev} {C S b L : Nat} {xs : Nat → Int32}
theorem LC_fresh {σX σM : St} {q i : Nat} (hi : i + 5 ≤ L) (hL : L ≤ 2560) (hC : C ≤ 600000) (hSl : S ≤ 7302249) (hJ : IJ σX σM q) (hq : q < 2 ^ 29) (k : ∀ σX' σM', IJ σX' σM' (q + 200) → LW g C S b L xs 1158 (LVx g b i) [] σX' σM') : LW g C S b L xs 160 (LVx g b i) [] σX σM := by
  refine lx_aload_n 1 dL_law_160 rfl rfl ?_
  refine lx_arg (j := 1) (by omega) (by omega) dL_law_161 dL_law_162 dL_law_163 rfl dL_law_164 dL_law_165 ?_
  refine lx_arg (j := 2) (by omega) (by omega) dL_law_166 dL_law_167 dL_law_168 rfl dL_law_169 dL_law_170 ?_
  refine lx_callX [.int (xs (i + 1)), .int (xs (i + 2))] [] rfl lqm_X2_fresh lql_13 lqi_X2_fresh lqs_X2_fresh lqn_X2 ok_X2_fresh (by decide) (by decide) dL_law_171 hC hSl rfl (S_fresh hJ hq) (fun r σ1 hF => ?_)
  obtain ⟨v, rfl, hR⟩ := hF
  refine lx_aload_n 2 dL_law_174 rfl rfl ?_
  refine lx_arg (j := 1) (by omega) (by omega) dL_law_175 dL_law_176 dL_law_177 rfl dL_law_178 dL_law_179 ?_
  refine lx_arg (j := 2) (by omega) (by omega) dL_law_180 dL_law_181 dL_law_182 rfl dL_law_183 dL_law_184 ?_
  refine lx_callM [.int (xs (i + 1)), .int (xs (i + 2))] [.int v] rfl lqm_X3_fresh lql_17 lqi_X3_fresh lqs_X3_fresh lqn_X3 ok_X3_fresh (by decide) (Nat.le_of_ble_eq_true rfl) dL_law_185 hC hSl rfl hR (fun r σ2 hF => ?_)
  obtain ⟨rfl, hJ2⟩ := hF
  exact lx_icmp_eq 1158 dL_law_188 rfl (fun _ => k _ _ hJ2) (fun z => absurd rfl z)
theorem LC_constant {σX σM : St} {q i : Nat} (hi : i + 5 ≤ L) (hL : L ≤ 2560) (hC : C ≤ 600000) (hSl : S ≤ 7302249) (hJ : IJ σX σM q) (hq : q < 2 ^ 29) (k : ∀ σX' σM', IJ σX' σM' (q + 200) → LW g C S b L xs 1158 (LVx g b i) [] σX' σM') : LW g C S b L xs 193 (LVx g b i) [] σX σM := by
  refine lx_aload_n 1 dL_law_193 rfl rfl ?_
  refine lx_arg (j := 1) (by omega) (by omega) dL_law_194 dL_law_195 dL_law_196 rfl dL_law_197 dL_law_198 ?_
  refine lx_arg (j := 2) (by omega) (by omega) dL_law_199 dL_law_200 dL_law_201 rfl dL_law_202 dL_law_203 ?_
  refine lx_zb 211 212 dL_law_204 rfl dL_law_207 dL_law_208 rfl dL_law_211 rfl ?_
  refine lx_callX [.int (xs (i + 1)), .int (bI (!decide ((xs (i + 2)) = nI 0)))] [] rfl lqm_X2_constant lql_18 lqi_X2_constant lqs_X2_constant lqn_X2 ok_X2_constant (by decide) (by decide) dL_law_212 hC hSl rfl (S_constant hJ hq) (fun r σ1 hF => ?_)
  obtain ⟨v, rfl, hR⟩ := hF
  refine lx_aload_n 2 dL_law_215 rfl rfl ?_
  refine lx_arg (j := 1) (by omega) (by omega) dL_law_216 dL_law_217 dL_law_218 rfl dL_law_219 dL_law_220 ?_
  refine lx_arg (j := 2) (by omega) (by omega) dL_law_221 dL_law_222 dL_law_223 rfl dL_law_224 dL_law_225 ?_
  refine lx_zb 233 234 dL_law_226 rfl dL_law_229 dL_law_230 rfl dL_law_233 rfl ?_
  refine lx_callM [.int (xs (i + 1)), .int (bI (!decide ((xs (i + 2)) = nI 0)))] [.int v] rfl lqm_X3_constant lql_22 lqi_X3_constant lqs_X3_constant lqn_X3 ok_X3_constant (by decide) (Nat.le_of_ble_eq_true rfl) dL_law_234 hC hSl rfl hR (fun r σ2 hF => ?_)
  obtain ⟨rfl, hJ2⟩ := hF
  exact lx_icmp_eq 1158 dL_law_237 rfl (fun _ => k _ _ hJ2) (fun z => absurd rfl z)
theorem LC_letter {σX σM : St} {q i : Nat} (hi : i + 5 ≤ L) (hL : L ≤ 2560) (hC : C ≤ 600000) (hSl : S ≤ 7302249) (hJ : IJ σX σM q) (hq : q < 2 ^ 29) (k : ∀ σX' σM', IJ σX' σM' (q + 200) → LW g C S b L xs 1158 (LVx g b i) [] σX' σM') : LW g C S b L xs 242 (LVx g b i) [] σX σM := by
  refine lx_aload_n 1 dL_law_242 rfl rfl ?_
  refine lx_arg (j := 1) (by omega) (by omega) dL_law_243 dL_law_244 dL_law_245 rfl dL_law_246 dL_law_247 ?_
  refine lx_arg (j := 2) (by omega) (by omega) dL_law_248 dL_law_249 dL_law_250 rfl dL_law_251 dL_law_252 ?_
  refine lx_callX [.int (xs (i + 1)), .int (xs (i + 2))] [] rfl lqm_X2_letter lql_23 lqi_X2_letter lqs_X2_letter lqn_X2 ok_X2_letter (by decide) (by decide) dL_law_253 hC hSl rfl (S_letter hJ hq) (fun r σ1 hF => ?_)
  obtain ⟨v, rfl, hR⟩ := hF
  refine lx_aload_n 2 dL_law_256 rfl rfl ?_
  refine lx_arg (j := 1) (by omega) (by omega) dL_law_257 dL_law_258 dL_law_259 rfl dL_law_260 dL_law_261 ?_
  refine lx_arg (j := 2) (by omega) (by omega) dL_law_262 dL_law_263 dL_law_264 rfl dL_law_265 dL_law_266 ?_
  refine lx_callM [.int (xs (i + 1)), .int (xs (i + 2))] [.int v] rfl lqm_X3_letter lql_27 lqi_X3_letter lqs_X3_letter lqn_X3 ok_X3_letter (by decide) (Nat.le_of_ble_eq_true rfl) dL_law_267 hC hSl rfl hR (fun r σ2 hF => ?_)
  obtain ⟨rfl, hJ2⟩ := hF
  exact lx_icmp_eq 1158 dL_law_270 rfl (fun _ => k _ _ hJ2) (fun z => absurd rfl z)
theorem LC_join {σX σM : St} {q i : Nat} (hi : i + 5 ≤ L) (hL : L ≤ 2560) (hC : C ≤ 600000) (hSl : S ≤ 7302249) (hJ : IJ σX σM q) (hq : q < 2 ^ 29) (k : ∀ σX' σM', IJ σX' σM' (q + 200) → LW g C S b L xs 1158 (LVx g b i) [] σX' σM') : LW g C S b L xs 275 (LVx g b i) [] σX σM := by
  refine lx_aload_n 1 dL_law_275 rfl rfl ?_
  refine lx_arg (j := 1) (by omega) (by omega) dL_law_276 dL_law_277 dL_law_278 rfl dL_law_279 dL_law_280 ?_
  refine lx_arg (j := 2) (by omega) (by omega) dL_law_281 dL_law_282 dL_law_283 rfl dL_law_284 dL_law_285 ?_
  refine lx_arg (j := 3) (by omega) (by omega) dL_law_286 dL_law_287 dL_law_288 rfl dL_law_289 dL_law_290 ?_
  refine lx_arg (j := 4) (by omega) (by omega) dL_law_291 dL_law_292 dL_law_293 rfl dL_law_294 dL_law_295 ?_
  refine lx_callX [.int (xs (i + 1)), .int (xs (i + 2)), .int (xs (i + 3)), .int (xs (i + 4))] [] rfl lqm_X2_join lql_28 lqi_X2_join lqs_X2_join lqn_X2 ok_X2_join (by decide) (by decide) dL_law_296 hC hSl rfl (S_join hJ hq) (fun r σ1 hF => ?_)
  obtain ⟨v, rfl, hR⟩ := hF
  refine lx_aload_n 2 dL_law_299 rfl rfl ?_
  refine lx_arg (j := 1) (by omega) (by omega) dL_law_300 dL_law_301 dL_law_302 rfl dL_law_303 dL_law_304 ?_
  refine lx_arg (j := 2) (by omega) (by omega) dL_law_305 dL_law_306 dL_law_307 rfl dL_law_308 dL_law_309 ?_
  refine lx_arg (j := 3) (by omega) (by omega) dL_law_310 dL_law_311 dL_law_312 rfl dL_law_313 dL_law_314 ?_
  refine lx_arg (j := 4) (by omega) (by omega) dL_law_315 dL_law_316 dL_law_317 rfl dL_law_318 dL_law_319 ?_
  refine lx_callM [.int (xs (i + 1)), .int (xs (i + 2)), .int (xs (i + 3)), .int (xs (i + 4))] [.int v] rfl lqm_X3_join lql_32 lqi_X3_join lqs_X3_join lqn_X3 ok_X3_join (by decide) (Nat.le_of_ble_eq_true rfl) dL_law_320 hC hSl rfl hR (fun r σ2 hF => ?_)
  obtain ⟨rfl, hJ2⟩ := hF
  exact lx_icmp_eq 1158 dL_law_323 rfl (fun _ => k _ _ hJ2) (fun z => absurd rfl z)
theorem LC_fork {σX σM : St} {q i : Nat} (hi : i + 5 ≤ L) (hL : L ≤ 2560) (hC : C ≤ 600000) (hSl : S ≤ 7302249) (hJ : IJ σX σM q) (hq : q < 2 ^ 29) (k : ∀ σX' σM', IJ σX' σM' (q + 200) → LW g C S b L xs 1158 (LVx g b i) [] σX' σM') : LW g C S b L xs 328 (LVx g b i) [] σX σM := by
  refine lx_aload_n 1 dL_law_328 rfl rfl ?_
  refine lx_arg (j := 1) (by omega) (by omega) dL_law_329 dL_law_330 dL_law_331 rfl dL_law_332 dL_law_333 ?_
  refine lx_arg (j := 2) (by omega) (by omega) dL_law_334 dL_law_335 dL_law_336 rfl dL_law_337 dL_law_338 ?_
  refine lx_arg (j := 3) (by omega) (by omega) dL_law_339 dL_law_340 dL_law_341 rfl dL_law_342 dL_law_343 ?_
  refine lx_arg (j := 4) (by omega) (by omega) dL_law_344 dL_law_345 dL_law_346 rfl dL_law_347 dL_law_348 ?_
  refine lx_callX [.int (xs (i + 1)), .int (xs (i + 2)), .int (xs (i + 3)), .int (xs (i + 4))] [] rfl lqm_X2_fork lql_33 lqi_X2_fork lqs_X2_fork lqn_X2 ok_X2_fork (by decide) (by decide) dL_law_349 hC hSl rfl (S_fork hJ hq) (fun r σ1 hF => ?_)
  obtain ⟨v, rfl, hR⟩ := hF
  refine lx_aload_n 2 dL_law_352 rfl rfl ?_
  refine lx_arg (j := 1) (by omega) (by omega) dL_law_353 dL_law_354 dL_law_355 rfl dL_law_356 dL_law_357 ?_
  refine lx_arg (j := 2) (by omega) (by omega) dL_law_358 dL_law_359 dL_law_360 rfl dL_law_361 dL_law_362 ?_
  refine lx_arg (j := 3) (by omega) (by omega) dL_law_363 dL_law_364 dL_law_365 rfl dL_law_366 dL_law_367 ?_
  refine lx_arg (j := 4) (by omega) (by omega) dL_law_368 dL_law_369 dL_law_370 rfl dL_law_371 dL_law_372 ?_
  refine lx_callM [.int (xs (i + 1)), .int (xs (i + 2)), .int (xs (i + 3)), .int (xs (i + 4))] [.int v] rfl lqm_X3_fork lql_36 lqi_X3_fork lqs_X3_fork lqn_X3 ok_X3_fork (by decide) (Nat.le_of_ble_eq_true rfl) dL_law_373 hC hSl rfl hR (fun r σ2 hF => ?_)
  obtain ⟨rfl, hJ2⟩ := hF
  exact lx_icmp_eq 1158 dL_law_376 rfl (fun _ => k _ _ hJ2) (fun z => absurd rfl z)
theorem LC_fix {σX σM : St} {q i : Nat} (hi : i + 5 ≤ L) (hL : L ≤ 2560) (hC : C ≤ 600000) (hSl : S ≤ 7302249) (hJ : IJ σX σM q) (hq : q < 2 ^ 29) (k : ∀ σX' σM', IJ σX' σM' (q + 200) → LW g C S b L xs 1158 (LVx g b i) [] σX' σM') : LW g C S b L xs 381 (LVx g b i) [] σX σM := by
  refine lx_aload_n 1 dL_law_381 rfl rfl ?_
  refine lx_arg (j := 1) (by omega) (by omega) dL_law_382 dL_law_383 dL_law_384 rfl dL_law_385 dL_law_386 ?_
  refine lx_arg (j := 2) (by omega) (by omega) dL_law_387 dL_law_388 dL_law_389 rfl dL_law_390 dL_law_391 ?_
  refine lx_arg (j := 3) (by omega) (by omega) dL_law_392 dL_law_393 dL_law_394 rfl dL_law_395 dL_law_396 ?_
  refine lx_arg (j := 4) (by omega) (by omega) dL_law_397 dL_law_398 dL_law_399 rfl dL_law_400 dL_law_401 ?_
  refine lx_zb 409 410 dL_law_402 rfl dL_law_405 dL_law_406 rfl dL_law_409 rfl ?_
  refine lx_callX [.int (xs (i + 1)), .int (xs (i + 2)), .int (xs (i + 3)), .int (bI (!decide ((xs (i + 4)) = nI 0)))] [] rfl lqm_X2_fix lql_37 lqi_X2_fix lqs_X2_fix lqn_X2 ok_X2_fix (by decide) (by decide) dL_law_410 hC hSl rfl (S_fix hJ hq) (fun r σ1 hF => ?_)
  obtain ⟨v, rfl, hR⟩ := hF
  refine lx_aload_n 2 dL_law_413 rfl rfl ?_
  refine lx_arg (j := 1) (by omega) (by omega) dL_law_414 dL_law_415 dL_law_416 rfl dL_law_417 dL_law_418 ?_
  refine lx_arg (j := 2) (by omega) (by omega) dL_law_419 dL_law_420 dL_law_421 rfl dL_law_422 dL_law_423 ?_
  refine lx_arg (j := 3) (by omega) (by omega) dL_law_424 dL_law_425 dL_law_426 rfl dL_law_427 dL_law_428 ?_
  refine lx_arg (j := 4) (by omega) (by omega) dL_law_429 dL_law_430 dL_law_431 rfl dL_law_432 dL_law_433 ?_
  refine lx_zb 441 442 dL_law_434 rfl dL_law_437 dL_law_438 rfl dL_law_441 rfl ?_
  refine lx_callM [.int (xs (i + 1)), .int (xs (i + 2)), .int (xs (i + 3)), .int (bI (!decide ((xs (i + 4)) = nI 0)))] [.int v] rfl lqm_X3_fix lql_41 lqi_X3_fix lqs_X3_fix lqn_X3 ok_X3_fix (by decide) (Nat.le_of_ble_eq_true rfl) dL_law_442 hC hSl rfl hR (fun r σ2 hF => ?_)
  obtain ⟨rfl, hJ2⟩ := hF
  exact lx_icmp_eq 1158 dL_law_445 rfl (fun _ => k _ _ hJ2) (fun z => absurd rfl z)
theorem LC_put {σX σM : St} {q i : Nat} (hi : i + 5 ≤ L) (hL : L ≤ 2560) (hC : C ≤ 600000) (hSl : S ≤ 7302249) (hJ : IJ σX σM q) (hq : q < 2 ^ 29) (k : ∀ σX' σM', IJ σX' σM' (q + 200) → LW g C S b L xs 1158 (LVx g b i) [] σX' σM') : LW g C S b L xs 450 (LVx g b i) [] σX σM := by
  refine lx_aload_n 1 dL_law_450 rfl rfl ?_
  refine lx_arg (j := 1) (by omega) (by omega) dL_law_451 dL_law_452 dL_law_453 rfl dL_law_454 dL_law_455 ?_
  refine lx_arg (j := 2) (by omega) (by omega) dL_law_456 dL_law_457 dL_law_458 rfl dL_law_459 dL_law_460 ?_
  refine lx_arg (j := 3) (by omega) (by omega) dL_law_461 dL_law_462 dL_law_463 rfl dL_law_464 dL_law_465 ?_
  refine lx_arg (j := 4) (by omega) (by omega) dL_law_466 dL_law_467 dL_law_468 rfl dL_law_469 dL_law_470 ?_
  refine lx_callX [.int (xs (i + 1)), .int (xs (i + 2)), .int (xs (i + 3)), .int (xs (i + 4))] [] rfl lqm_X2_put lql_42 lqi_X2_put lqs_X2_put lqn_X2 ok_X2_put (by decide) (by decide) dL_law_471 hC hSl rfl (S_put hJ hq) (fun r σ1 hF => ?_)
  obtain ⟨v, rfl, hR⟩ := hF
  refine lx_aload_n 2 dL_law_474 rfl rfl ?_
  refine lx_arg (j := 1) (by omega) (by omega) dL_law_475 dL_law_476 dL_law_477 rfl dL_law_478 dL_law_479 ?_
  refine lx_arg (j := 2) (by omega) (by omega) dL_law_480 dL_law_481 dL_law_482 rfl dL_law_483 dL_law_484 ?_
  refine lx_arg (j := 3) (by omega) (by omega) dL_law_485 dL_law_486 dL_law_487 rfl dL_law_488 dL_law_489 ?_
  refine lx_arg (j := 4) (by omega) (by omega) dL_law_490 dL_law_491 dL_law_492 rfl dL_law_493 dL_law_494 ?_
  refine lx_callM [.int (xs (i + 1)), .int (xs (i + 2)), .int (xs (i + 3)), .int (xs (i + 4))] [.int v] rfl lqm_X3_put lql_45 lqi_X3_put lqs_X3_put lqn_X3 ok_X3_put (by decide) (Nat.le_of_ble_eq_true rfl) dL_law_495 hC hSl rfl hR (fun r σ2 hF => ?_)
  obtain ⟨rfl, hJ2⟩ := hF
  exact lx_icmp_eq 1158 dL_law_498 rfl (fun _ => k _ _ hJ2) (fun z => absurd rfl z)
theorem LC_sum {σX σM : St} {q i : Nat} (hi : i + 5 ≤ L) (hL : L ≤ 2560) (hC : C ≤ 600000) (hSl : S ≤ 7302249) (hJ : IJ σX σM q) (hq : q < 2 ^ 29) (k : ∀ σX' σM', IJ σX' σM' (q + 200) → LW g C S b L xs 1158 (LVx g b i) [] σX' σM') : LW g C S b L xs 503 (LVx g b i) [] σX σM := by
  refine lx_aload_n 1 dL_law_503 rfl rfl ?_
  refine lx_arg (j := 1) (by omega) (by omega) dL_law_504 dL_law_505 dL_law_506 rfl dL_law_507 dL_law_508 ?_
  refine lx_arg (j := 2) (by omega) (by omega) dL_law_509 dL_law_510 dL_law_511 rfl dL_law_512 dL_law_513 ?_
  refine lx_arg (j := 3) (by omega) (by omega) dL_law_514 dL_law_515 dL_law_516 rfl dL_law_517 dL_law_518 ?_
  refine lx_arg (j := 4) (by omega) (by omega) dL_law_519 dL_law_520 dL_law_521 rfl dL_law_522 dL_law_523 ?_
  refine lx_zb 531 532 dL_law_524 rfl dL_law_527 dL_law_528 rfl dL_law_531 rfl ?_
  refine lx_callX [.int (xs (i + 1)), .int (xs (i + 2)), .int (xs (i + 3)), .int (bI (!decide ((xs (i + 4)) = nI 0)))] [] rfl lqm_X2_sum lql_46 lqi_X2_sum lqs_X2_sum lqn_X2 ok_X2_sum (by decide) (by decide) dL_law_532 hC hSl rfl (S_sum hJ hq) (fun r σ1 hF => ?_)
  obtain ⟨v, rfl, hR⟩ := hF
  refine lx_aload_n 2 dL_law_535 rfl rfl ?_
  refine lx_arg (j := 1) (by omega) (by omega) dL_law_536 dL_law_537 dL_law_538 rfl dL_law_539 dL_law_540 ?_
  refine lx_arg (j := 2) (by omega) (by omega) dL_law_541 dL_law_542 dL_law_543 rfl dL_law_544 dL_law_545 ?_
  refine lx_arg (j := 3) (by omega) (by omega) dL_law_546 dL_law_547 dL_law_548 rfl dL_law_549 dL_law_550 ?_
  refine lx_arg (j := 4) (by omega) (by omega) dL_law_551 dL_law_552 dL_law_553 rfl dL_law_554 dL_law_555 ?_
  refine lx_zb 563 564 dL_law_556 rfl dL_law_559 dL_law_560 rfl dL_law_563 rfl ?_
  refine lx_callM [.int (xs (i + 1)), .int (xs (i + 2)), .int (xs (i + 3)), .int (bI (!decide ((xs (i + 4)) = nI 0)))] [.int v] rfl lqm_X3_sum lql_49 lqi_X3_sum lqs_X3_sum lqn_X3 ok_X3_sum (by decide) (Nat.le_of_ble_eq_true rfl) dL_law_564 hC hSl rfl hR (fun r σ2 hF => ?_)
  obtain ⟨rfl, hJ2⟩ := hF
  exact lx_icmp_eq 1158 dL_law_567 rfl (fun _ => k _ _ hJ2) (fun z => absurd rfl z)
theorem LC_trade {σX σM : St} {q i : Nat} (hi : i + 5 ≤ L) (hL : L ≤ 2560) (hC : C ≤ 600000) (hSl : S ≤ 7302249) (hJ : IJ σX σM q) (hq : q < 2 ^ 29) (k : ∀ σX' σM', IJ σX' σM' (q + 200) → LW g C S b L xs 1158 (LVx g b i) [] σX' σM') : LW g C S b L xs 572 (LVx g b i) [] σX σM := by
  refine lx_aload_n 1 dL_law_572 rfl rfl ?_
  refine lx_arg (j := 1) (by omega) (by omega) dL_law_573 dL_law_574 dL_law_575 rfl dL_law_576 dL_law_577 ?_
  refine lx_arg (j := 2) (by omega) (by omega) dL_law_578 dL_law_579 dL_law_580 rfl dL_law_581 dL_law_582 ?_
  refine lx_arg (j := 3) (by omega) (by omega) dL_law_583 dL_law_584 dL_law_585 rfl dL_law_586 dL_law_587 ?_
  refine lx_arg (j := 4) (by omega) (by omega) dL_law_588 dL_law_589 dL_law_590 rfl dL_law_591 dL_law_592 ?_
  refine lx_callX [.int (xs (i + 1)), .int (xs (i + 2)), .int (xs (i + 3)), .int (xs (i + 4))] [] rfl lqm_X2_trade lql_50 lqi_X2_trade lqs_X2_trade lqn_X2 ok_X2_trade (by decide) (by decide) dL_law_593 hC hSl rfl (S_trade hJ hq) (fun r σ1 hF => ?_)
  obtain ⟨v, rfl, hR⟩ := hF
  refine lx_aload_n 2 dL_law_596 rfl rfl ?_
  refine lx_arg (j := 1) (by omega) (by omega) dL_law_597 dL_law_598 dL_law_599 rfl dL_law_600 dL_law_601 ?_
  refine lx_arg (j := 2) (by omega) (by omega) dL_law_602 dL_law_603 dL_law_604 rfl dL_law_605 dL_law_606 ?_
  refine lx_arg (j := 3) (by omega) (by omega) dL_law_607 dL_law_608 dL_law_609 rfl dL_law_610 dL_law_611 ?_
  refine lx_arg (j := 4) (by omega) (by omega) dL_law_612 dL_law_613 dL_law_614 rfl dL_law_615 dL_law_616 ?_
  refine lx_callM [.int (xs (i + 1)), .int (xs (i + 2)), .int (xs (i + 3)), .int (xs (i + 4))] [.int v] rfl lqm_X3_trade lql_53 lqi_X3_trade lqs_X3_trade lqn_X3 ok_X3_trade (by decide) (Nat.le_of_ble_eq_true rfl) dL_law_617 hC hSl rfl hR (fun r σ2 hF => ?_)
  obtain ⟨rfl, hJ2⟩ := hF
  exact lx_icmp_eq 1158 dL_law_620 rfl (fun _ => k _ _ hJ2) (fun z => absurd rfl z)
theorem LC_near {σX σM : St} {q i : Nat} (hi : i + 5 ≤ L) (hL : L ≤ 2560) (hC : C ≤ 600000) (hSl : S ≤ 7302249) (hJ : IJ σX σM q) (hq : q < 2 ^ 29) (k : ∀ σX' σM', IJ σX' σM' (q + 200) → LW g C S b L xs 1158 (LVx g b i) [] σX' σM') : LW g C S b L xs 625 (LVx g b i) [] σX σM := by
  refine lx_aload_n 1 dL_law_625 rfl rfl ?_
  refine lx_arg (j := 1) (by omega) (by omega) dL_law_626 dL_law_627 dL_law_628 rfl dL_law_629 dL_law_630 ?_
  refine lx_arg (j := 2) (by omega) (by omega) dL_law_631 dL_law_632 dL_law_633 rfl dL_law_634 dL_law_635 ?_
  refine lx_arg (j := 3) (by omega) (by omega) dL_law_636 dL_law_637 dL_law_638 rfl dL_law_639 dL_law_640 ?_
  refine lx_callX [.int (xs (i + 1)), .int (xs (i + 2)), .int (xs (i + 3))] [] rfl lqm_X2_near lql_54 lqi_X2_near lqs_X2_near lqn_X2 ok_X2_near (by decide) (by decide) dL_law_641 hC hSl rfl (S_near hJ hq) (fun r σ1 hF => ?_)
  obtain ⟨v, rfl, hR⟩ := hF
  refine lx_aload_n 2 dL_law_644 rfl rfl ?_
  refine lx_arg (j := 1) (by omega) (by omega) dL_law_645 dL_law_646 dL_law_647 rfl dL_law_648 dL_law_649 ?_
  refine lx_arg (j := 2) (by omega) (by omega) dL_law_650 dL_law_651 dL_law_652 rfl dL_law_653 dL_law_654 ?_
  refine lx_arg (j := 3) (by omega) (by omega) dL_law_655 dL_law_656 dL_law_657 rfl dL_law_658 dL_law_659 ?_
  refine lx_callM [.int (xs (i + 1)), .int (xs (i + 2)), .int (xs (i + 3))] [.int v] rfl lqm_X3_near lql_58 lqi_X3_near lqs_X3_near lqn_X3 ok_X3_near (by decide) (Nat.le_of_ble_eq_true rfl) dL_law_660 hC hSl rfl hR (fun r σ2 hF => ?_)
  obtain ⟨rfl, hJ2⟩ := hF
  exact lx_icmp_eq 1158 dL_law_663 rfl (fun _ => k _ _ hJ2) (fun z => absurd rfl z)
theorem LC_copy {σX σM : St} {q i : Nat} (hi : i + 5 ≤ L) (hL : L ≤ 2560) (hC : C ≤ 600000) (hSl : S ≤ 7302249) (hJ : IJ σX σM q) (hq : q < 2 ^ 29) (k : ∀ σX' σM', IJ σX' σM' (q + 200) → LW g C S b L xs 1158 (LVx g b i) [] σX' σM') : LW g C S b L xs 668 (LVx g b i) [] σX σM := by
  refine lx_aload_n 1 dL_law_668 rfl rfl ?_
  refine lx_arg (j := 1) (by omega) (by omega) dL_law_669 dL_law_670 dL_law_671 rfl dL_law_672 dL_law_673 ?_
  refine lx_arg (j := 2) (by omega) (by omega) dL_law_674 dL_law_675 dL_law_676 rfl dL_law_677 dL_law_678 ?_
  refine lx_callX [.int (xs (i + 1)), .int (xs (i + 2))] [] rfl lqm_X2_copy lql_59 lqi_X2_copy lqs_X2_copy lqn_X2 ok_X2_copy (by decide) (by decide) dL_law_679 hC hSl rfl (S_copy hJ hq) (fun r σ1 hF => ?_)
  obtain ⟨v, rfl, hR⟩ := hF
  refine lx_aload_n 2 dL_law_682 rfl rfl ?_
  refine lx_arg (j := 1) (by omega) (by omega) dL_law_683 dL_law_684 dL_law_685 rfl dL_law_686 dL_law_687 ?_
  refine lx_arg (j := 2) (by omega) (by omega) dL_law_688 dL_law_689 dL_law_690 rfl dL_law_691 dL_law_692 ?_
  refine lx_callM [.int (xs (i + 1)), .int (xs (i + 2))] [.int v] rfl lqm_X3_copy lql_62 lqi_X3_copy lqs_X3_copy lqn_X3 ok_X3_copy (by decide) (Nat.le_of_ble_eq_true rfl) dL_law_693 hC hSl rfl hR (fun r σ2 hF => ?_)
  obtain ⟨rfl, hJ2⟩ := hF
  exact lx_icmp_eq 1158 dL_law_696 rfl (fun _ => k _ _ hJ2) (fun z => absurd rfl z)
theorem LC_swap {σX σM : St} {q i : Nat} (hi : i + 5 ≤ L) (hL : L ≤ 2560) (hC : C ≤ 600000) (hSl : S ≤ 7302249) (hJ : IJ σX σM q) (hq : q < 2 ^ 29) (k : ∀ σX' σM', IJ σX' σM' (q + 200) → LW g C S b L xs 1158 (LVx g b i) [] σX' σM') : LW g C S b L xs 701 (LVx g b i) [] σX σM := by
  refine lx_aload_n 1 dL_law_701 rfl rfl ?_
  refine lx_arg (j := 1) (by omega) (by omega) dL_law_702 dL_law_703 dL_law_704 rfl dL_law_705 dL_law_706 ?_
  refine lx_callX [.int (xs (i + 1))] [] rfl lqm_X2_swap lql_63 lqi_X2_swap lqs_X2_swap lqn_X2 ok_X2_swap (by decide) (by decide) dL_law_707 hC hSl rfl (S_swap hJ hq) (fun r σ1 hF => ?_)
  obtain ⟨v, rfl, hR⟩ := hF
  refine lx_aload_n 2 dL_law_710 rfl rfl ?_
  refine lx_arg (j := 1) (by omega) (by omega) dL_law_711 dL_law_712 dL_law_713 rfl dL_law_714 dL_law_715 ?_
  refine lx_callM [.int (xs (i + 1))] [.int v] rfl lqm_X3_swap lql_67 lqi_X3_swap lqs_X3_swap lqn_X3 ok_X3_swap (by decide) (Nat.le_of_ble_eq_true rfl) dL_law_716 hC hSl rfl hR (fun r σ2 hF => ?_)
  obtain ⟨rfl, hJ2⟩ := hF
  exact lx_icmp_eq 1158 dL_law_719 rfl (fun _ => k _ _ hJ2) (fun z => absurd rfl z)
theorem LC_sift {σX σM : St} {q i : Nat} (hi : i + 5 ≤ L) (hL : L ≤ 2560) (hC : C ≤ 600000) (hSl : S ≤ 7302249) (hJ : IJ σX σM q) (hq : q < 2 ^ 29) (k : ∀ σX' σM', IJ σX' σM' (q + 200) → LW g C S b L xs 1158 (LVx g b i) [] σX' σM') : LW g C S b L xs 724 (LVx g b i) [] σX σM := by
  refine lx_aload_n 1 dL_law_724 rfl rfl ?_
  refine lx_arg (j := 1) (by omega) (by omega) dL_law_725 dL_law_726 dL_law_727 rfl dL_law_728 dL_law_729 ?_
  refine lx_callX [.int (xs (i + 1))] [] rfl lqm_X2_sift lql_68 lqi_X2_sift lqs_X2_sift lqn_X2 ok_X2_sift (by decide) (by decide) dL_law_730 hC hSl rfl (S_sift hJ hq) (fun r σ1 hF => ?_)
  obtain ⟨v, rfl, hR⟩ := hF
  refine lx_aload_n 2 dL_law_733 rfl rfl ?_
  refine lx_arg (j := 1) (by omega) (by omega) dL_law_734 dL_law_735 dL_law_736 rfl dL_law_737 dL_law_738 ?_
  refine lx_callM [.int (xs (i + 1))] [.int v] rfl lqm_X3_sift lql_71 lqi_X3_sift lqs_X3_sift lqn_X3 ok_X3_sift (by decide) (Nat.le_of_ble_eq_true rfl) dL_law_739 hC hSl rfl hR (fun r σ2 hF => ?_)
  obtain ⟨rfl, hJ2⟩ := hF
  exact lx_icmp_eq 1158 dL_law_742 rfl (fun _ => k _ _ hJ2) (fun z => absurd rfl z)
theorem LC_cost {σX σM : St} {q i : Nat} (hi : i + 5 ≤ L) (hL : L ≤ 2560) (hC : C ≤ 600000) (hSl : S ≤ 7302249) (hJ : IJ σX σM q) (hq : q < 2 ^ 29) (k : ∀ σX' σM', IJ σX' σM' (q + 200) → LW g C S b L xs 1158 (LVx g b i) [] σX' σM') : LW g C S b L xs 747 (LVx g b i) [] σX σM := by
  refine lx_aload_n 1 dL_law_747 rfl rfl ?_
  refine lx_arg (j := 1) (by omega) (by omega) dL_law_748 dL_law_749 dL_law_750 rfl dL_law_751 dL_law_752 ?_
  refine lx_arg (j := 2) (by omega) (by omega) dL_law_753 dL_law_754 dL_law_755 rfl dL_law_756 dL_law_757 ?_
  refine lx_callX [.int (xs (i + 1)), .int (xs (i + 2))] [] rfl lqm_X2_cost lql_72 lqi_X2_cost lqs_X2_cost lqn_X2 ok_X2_cost (by decide) (by decide) dL_law_758 hC hSl rfl (S_cost hJ hq) (fun r σ1 hF => ?_)
  obtain ⟨v, rfl, hR⟩ := hF
  refine lx_aload_n 2 dL_law_761 rfl rfl ?_
  refine lx_arg (j := 1) (by omega) (by omega) dL_law_762 dL_law_763 dL_law_764 rfl dL_law_765 dL_law_766 ?_
  refine lx_arg (j := 2) (by omega) (by omega) dL_law_767 dL_law_768 dL_law_769 rfl dL_law_770 dL_law_771 ?_
  refine lx_callM [.int (xs (i + 1)), .int (xs (i + 2))] [.int v] rfl lqm_X3_cost lql_75 lqi_X3_cost lqs_X3_cost lqn_X3 ok_X3_cost (by decide) (Nat.le_of_ble_eq_true rfl) dL_law_772 hC hSl rfl hR (fun r σ2 hF => ?_)
  obtain ⟨rfl, hJ2⟩ := hF
  exact lx_icmp_eq 1158 dL_law_775 rfl (fun _ => k _ _ hJ2) (fun z => absurd rfl z)
theorem LC_same {σX σM : St} {q i : Nat} (hi : i + 5 ≤ L) (hL : L ≤ 2560) (hC : C ≤ 600000) (hSl : S ≤ 7302249) (hJ : IJ σX σM q) (hq : q < 2 ^ 29) (k : ∀ σX' σM', IJ σX' σM' (q + 200) → LW g C S b L xs 1158 (LVx g b i) [] σX' σM') : LW g C S b L xs 780 (LVx g b i) [] σX σM := by
  refine lx_aload_n 1 dL_law_780 rfl rfl ?_
  refine lx_arg (j := 1) (by omega) (by omega) dL_law_781 dL_law_782 dL_law_783 rfl dL_law_784 dL_law_785 ?_
  refine lx_arg (j := 2) (by omega) (by omega) dL_law_786 dL_law_787 dL_law_788 rfl dL_law_789 dL_law_790 ?_
  refine lx_callX [.int (xs (i + 1)), .int (xs (i + 2))] [] rfl lqm_X2_same lql_76 lqi_X2_same lqs_X2_same lqn_X2 ok_X2_same (by decide) (by decide) dL_law_791 hC hSl rfl (S_same hJ hq) (fun r σ1 hF => ?_)
  obtain ⟨v, rfl, hR⟩ := hF
  refine lx_aload_n 2 dL_law_794 rfl rfl ?_
  refine lx_arg (j := 1) (by omega) (by omega) dL_law_795 dL_law_796 dL_law_797 rfl dL_law_798 dL_law_799 ?_
  refine lx_arg (j := 2) (by omega) (by omega) dL_law_800 dL_law_801 dL_law_802 rfl dL_law_803 dL_law_804 ?_
  refine lx_callM [.int (xs (i + 1)), .int (xs (i + 2))] [.int v] rfl lqm_X3_same lql_79 lqi_X3_same lqs_X3_same lqn_X3 ok_X3_same (by decide) (Nat.le_of_ble_eq_true rfl) dL_law_805 hC hSl rfl hR (fun r σ2 hF => ?_)
  obtain ⟨rfl, hJ2⟩ := hF
  exact lx_icmp_eq 1158 dL_law_808 rfl (fun _ => k _ _ hJ2) (fun z => absurd rfl z)
theorem LC_tells {σX σM : St} {q i : Nat} (hi : i + 5 ≤ L) (hL : L ≤ 2560) (hC : C ≤ 600000) (hSl : S ≤ 7302249) (hJ : IJ σX σM q) (hq : q < 2 ^ 29) (k : ∀ σX' σM', IJ σX' σM' (q + 200) → LW g C S b L xs 1158 (LVx g b i) [] σX' σM') : LW g C S b L xs 813 (LVx g b i) [] σX σM := by
  refine lx_aload_n 1 dL_law_813 rfl rfl ?_
  refine lx_arg (j := 1) (by omega) (by omega) dL_law_814 dL_law_815 dL_law_816 rfl dL_law_817 dL_law_818 ?_
  refine lx_arg (j := 2) (by omega) (by omega) dL_law_819 dL_law_820 dL_law_821 rfl dL_law_822 dL_law_823 ?_
  refine lx_callX [.int (xs (i + 1)), .int (xs (i + 2))] [] rfl lqm_X2_tells lql_80 lqi_X2_tells lqs_X2_tells lqn_X2 ok_X2_tells (by decide) (by decide) dL_law_824 hC hSl rfl (S_tells hJ hq) (fun r σ1 hF => ?_)
  obtain ⟨v, rfl, hR⟩ := hF
  refine lx_aload_n 2 dL_law_827 rfl rfl ?_
  refine lx_arg (j := 1) (by omega) (by omega) dL_law_828 dL_law_829 dL_law_830 rfl dL_law_831 dL_law_832 ?_
  refine lx_arg (j := 2) (by omega) (by omega) dL_law_833 dL_law_834 dL_law_835 rfl dL_law_836 dL_law_837 ?_
  refine lx_callM [.int (xs (i + 1)), .int (xs (i + 2))] [.int v] rfl lqm_X3_tells lql_83 lqi_X3_tells lqs_X3_tells lqn_X3 ok_X3_tells (by decide) (Nat.le_of_ble_eq_true rfl) dL_law_838 hC hSl rfl hR (fun r σ2 hF => ?_)
  obtain ⟨rfl, hJ2⟩ := hF
  exact lx_icmp_eq 1158 dL_law_841 rfl (fun _ => k _ _ hJ2) (fun z => absurd rfl z)
theorem LC_many {σX σM : St} {q i : Nat} (hi : i + 5 ≤ L) (hL : L ≤ 2560) (hC : C ≤ 600000) (hSl : S ≤ 7302249) (hJ : IJ σX σM q) (hq : q < 2 ^ 29) (k : ∀ σX' σM', IJ σX' σM' (q + 200) → LW g C S b L xs 1158 (LVx g b i) [] σX' σM') : LW g C S b L xs 846 (LVx g b i) [] σX σM := by
  refine lx_aload_n 1 dL_law_846 rfl rfl ?_
  refine lx_arg (j := 1) (by omega) (by omega) dL_law_847 dL_law_848 dL_law_849 rfl dL_law_850 dL_law_851 ?_
  refine lx_callX [.int (xs (i + 1))] [] rfl lqm_X2_many lql_84 lqi_X2_many lqs_X2_many lqn_X2 ok_X2_many (by decide) (by decide) dL_law_852 hC hSl rfl (S_many hJ hq) (fun r σ1 hF => ?_)
  obtain ⟨v, rfl, hR⟩ := hF
  refine lx_aload_n 2 dL_law_855 rfl rfl ?_
  refine lx_arg (j := 1) (by omega) (by omega) dL_law_856 dL_law_857 dL_law_858 rfl dL_law_859 dL_law_860 ?_
  refine lx_callM [.int (xs (i + 1))] [.int v] rfl lqm_X3_many lql_87 lqi_X3_many lqs_X3_many lqn_X3 ok_X3_many (by decide) (Nat.le_of_ble_eq_true rfl) dL_law_861 hC hSl rfl hR (fun r σ2 hF => ?_)
  obtain ⟨rfl, hJ2⟩ := hF
  exact lx_icmp_eq 1158 dL_law_864 rfl (fun _ => k _ _ hJ2) (fun z => absurd rfl z)
theorem LC_pick {σX σM : St} {q i : Nat} (hi : i + 5 ≤ L) (hL : L ≤ 2560) (hC : C ≤ 600000) (hSl : S ≤ 7302249) (hJ : IJ σX σM q) (hq : q < 2 ^ 29) (k : ∀ σX' σM', IJ σX' σM' (q + 200) → LW g C S b L xs 1158 (LVx g b i) [] σX' σM') : LW g C S b L xs 869 (LVx g b i) [] σX σM := by
  refine lx_aload_n 1 dL_law_869 rfl rfl ?_
  refine lx_arg (j := 1) (by omega) (by omega) dL_law_870 dL_law_871 dL_law_872 rfl dL_law_873 dL_law_874 ?_
  refine lx_arg (j := 2) (by omega) (by omega) dL_law_875 dL_law_876 dL_law_877 rfl dL_law_878 dL_law_879 ?_
  refine lx_callX [.int (xs (i + 1)), .int (xs (i + 2))] [] rfl lqm_X2_pick lql_88 lqi_X2_pick lqs_X2_pick lqn_X2 ok_X2_pick (by decide) (by decide) dL_law_880 hC hSl rfl (S_pick hJ hq) (fun r σ1 hF => ?_)
  obtain ⟨v, rfl, hR⟩ := hF
  refine lx_aload_n 2 dL_law_883 rfl rfl ?_
  refine lx_arg (j := 1) (by omega) (by omega) dL_law_884 dL_law_885 dL_law_886 rfl dL_law_887 dL_law_888 ?_
  refine lx_arg (j := 2) (by omega) (by omega) dL_law_889 dL_law_890 dL_law_891 rfl dL_law_892 dL_law_893 ?_
  refine lx_callM [.int (xs (i + 1)), .int (xs (i + 2))] [.int v] rfl lqm_X3_pick lql_91 lqi_X3_pick lqs_X3_pick lqn_X3 ok_X3_pick (by decide) (Nat.le_of_ble_eq_true rfl) dL_law_894 hC hSl rfl hR (fun r σ2 hF => ?_)
  obtain ⟨rfl, hJ2⟩ := hF
  exact lx_icmp_eq 1158 dL_law_897 rfl (fun _ => k _ _ hJ2) (fun z => absurd rfl z)
theorem LC_cheapest {σX σM : St} {q i : Nat} (hi : i + 5 ≤ L) (hL : L ≤ 2560) (hC : C ≤ 600000) (hSl : S ≤ 7302249) (hJ : IJ σX σM q) (hq : q < 2 ^ 29) (k : ∀ σX' σM', IJ σX' σM' (q + 200) → LW g C S b L xs 1158 (LVx g b i) [] σX' σM') : LW g C S b L xs 902 (LVx g b i) [] σX σM := by
  refine lx_aload_n 1 dL_law_902 rfl rfl ?_
  refine lx_arg (j := 1) (by omega) (by omega) dL_law_903 dL_law_904 dL_law_905 rfl dL_law_906 dL_law_907 ?_
  refine lx_callX [.int (xs (i + 1))] [] rfl lqm_X2_cheapest lql_92 lqi_X2_cheapest lqs_X2_cheapest lqn_X2 ok_X2_cheapest (by decide) (by decide) dL_law_908 hC hSl rfl (S_cheapest hJ hq) (fun r σ1 hF => ?_)
  obtain ⟨v, rfl, hR⟩ := hF
  refine lx_aload_n 2 dL_law_911 rfl rfl ?_
  refine lx_arg (j := 1) (by omega) (by omega) dL_law_912 dL_law_913 dL_law_914 rfl dL_law_915 dL_law_916 ?_
  refine lx_callM [.int (xs (i + 1))] [.int v] rfl lqm_X3_cheapest lql_95 lqi_X3_cheapest lqs_X3_cheapest lqn_X3 ok_X3_cheapest (by decide) (Nat.le_of_ble_eq_true rfl) dL_law_917 hC hSl rfl hR (fun r σ2 hF => ?_)
  obtain ⟨rfl, hJ2⟩ := hF
  exact lx_icmp_eq 1158 dL_law_920 rfl (fun _ => k _ _ hJ2) (fun z => absurd rfl z)
theorem LC_dearest {σX σM : St} {q i : Nat} (hi : i + 5 ≤ L) (hL : L ≤ 2560) (hC : C ≤ 600000) (hSl : S ≤ 7302249) (hJ : IJ σX σM q) (hq : q < 2 ^ 29) (k : ∀ σX' σM', IJ σX' σM' (q + 200) → LW g C S b L xs 1158 (LVx g b i) [] σX' σM') : LW g C S b L xs 925 (LVx g b i) [] σX σM := by
  refine lx_aload_n 1 dL_law_925 rfl rfl ?_
  refine lx_arg (j := 1) (by omega) (by omega) dL_law_926 dL_law_927 dL_law_928 rfl dL_law_929 dL_law_930 ?_
  refine lx_callX [.int (xs (i + 1))] [] rfl lqm_X2_dearest lql_96 lqi_X2_dearest lqs_X2_dearest lqn_X2 ok_X2_dearest (by decide) (by decide) dL_law_931 hC hSl rfl (S_dearest hJ hq) (fun r σ1 hF => ?_)
  obtain ⟨v, rfl, hR⟩ := hF
  refine lx_aload_n 2 dL_law_934 rfl rfl ?_
  refine lx_arg (j := 1) (by omega) (by omega) dL_law_935 dL_law_936 dL_law_937 rfl dL_law_938 dL_law_939 ?_
  refine lx_callM [.int (xs (i + 1))] [.int v] rfl lqm_X3_dearest lql_99 lqi_X3_dearest lqs_X3_dearest lqn_X3 ok_X3_dearest (by decide) (Nat.le_of_ble_eq_true rfl) dL_law_940 hC hSl rfl hR (fun r σ2 hF => ?_)
  obtain ⟨rfl, hJ2⟩ := hF
  exact lx_icmp_eq 1158 dL_law_943 rfl (fun _ => k _ _ hJ2) (fun z => absurd rfl z)
theorem LC_letters {σX σM : St} {q i : Nat} (hi : i + 5 ≤ L) (hL : L ≤ 2560) (hC : C ≤ 600000) (hSl : S ≤ 7302249) (hJ : IJ σX σM q) (hq : q < 2 ^ 29) (k : ∀ σX' σM', IJ σX' σM' (q + 200) → LW g C S b L xs 1158 (LVx g b i) [] σX' σM') : LW g C S b L xs 948 (LVx g b i) [] σX σM := by
  refine lx_aload_n 1 dL_law_948 rfl rfl ?_
  refine lx_arg (j := 1) (by omega) (by omega) dL_law_949 dL_law_950 dL_law_951 rfl dL_law_952 dL_law_953 ?_
  refine lx_callX [.int (xs (i + 1))] [] rfl lqm_X2_letters lql_100 lqi_X2_letters lqs_X2_letters lqn_X2 ok_X2_letters (by decide) (by decide) dL_law_954 hC hSl rfl (S_letters hJ hq) (fun r σ1 hF => ?_)
  obtain ⟨v, rfl, hR⟩ := hF
  refine lx_aload_n 2 dL_law_957 rfl rfl ?_
  refine lx_arg (j := 1) (by omega) (by omega) dL_law_958 dL_law_959 dL_law_960 rfl dL_law_961 dL_law_962 ?_
  refine lx_callM [.int (xs (i + 1))] [.int v] rfl lqm_X3_letters lql_103 lqi_X3_letters lqs_X3_letters lqn_X3 ok_X3_letters (by decide) (Nat.le_of_ble_eq_true rfl) dL_law_963 hC hSl rfl hR (fun r σ2 hF => ?_)
  obtain ⟨rfl, hJ2⟩ := hF
  exact lx_icmp_eq 1158 dL_law_966 rfl (fun _ => k _ _ hJ2) (fun z => absurd rfl z)
theorem LC_size {σX σM : St} {q i : Nat} (hi : i + 5 ≤ L) (hL : L ≤ 2560) (hC : C ≤ 600000) (hSl : S ≤ 7302249) (hJ : IJ σX σM q) (hq : q < 2 ^ 29) (k : ∀ σX' σM', IJ σX' σM' (q + 200) → LW g C S b L xs 1158 (LVx g b i) [] σX' σM') : LW g C S b L xs 971 (LVx g b i) [] σX σM := by
  refine lx_aload_n 1 dL_law_971 rfl rfl ?_
  refine lx_arg (j := 1) (by omega) (by omega) dL_law_972 dL_law_973 dL_law_974 rfl dL_law_975 dL_law_976 ?_
  refine lx_callX [.int (xs (i + 1))] [] rfl lqm_X2_size lql_104 lqi_X2_size lqs_X2_size lqn_X2 ok_X2_size (by decide) (by decide) dL_law_977 hC hSl rfl (S_size hJ hq) (fun r σ1 hF => ?_)
  obtain ⟨v, rfl, hR⟩ := hF
  refine lx_aload_n 2 dL_law_980 rfl rfl ?_
  refine lx_arg (j := 1) (by omega) (by omega) dL_law_981 dL_law_982 dL_law_983 rfl dL_law_984 dL_law_985 ?_
  refine lx_callM [.int (xs (i + 1))] [.int v] rfl lqm_X3_size lql_107 lqi_X3_size lqs_X3_size lqn_X3 ok_X3_size (by decide) (Nat.le_of_ble_eq_true rfl) dL_law_986 hC hSl rfl hR (fun r σ2 hF => ?_)
  obtain ⟨rfl, hJ2⟩ := hF
  exact lx_icmp_eq 1158 dL_law_989 rfl (fun _ => k _ _ hJ2) (fun z => absurd rfl z)
theorem LC_width {σX σM : St} {q i : Nat} (hi : i + 5 ≤ L) (hL : L ≤ 2560) (hC : C ≤ 600000) (hSl : S ≤ 7302249) (hJ : IJ σX σM q) (hq : q < 2 ^ 29) (k : ∀ σX' σM', IJ σX' σM' (q + 200) → LW g C S b L xs 1158 (LVx g b i) [] σX' σM') : LW g C S b L xs 994 (LVx g b i) [] σX σM := by
  refine lx_aload_n 1 dL_law_994 rfl rfl ?_
  refine lx_arg (j := 1) (by omega) (by omega) dL_law_995 dL_law_996 dL_law_997 rfl dL_law_998 dL_law_999 ?_
  refine lx_arg (j := 2) (by omega) (by omega) dL_law_1000 dL_law_1001 dL_law_1002 rfl dL_law_1003 dL_law_1004 ?_
  refine lx_callX [.int (xs (i + 1)), .int (xs (i + 2))] [] rfl lqm_X2_width lql_108 lqi_X2_width lqs_X2_width lqn_X2 ok_X2_width (by decide) (by decide) dL_law_1005 hC hSl rfl (S_width hJ hq) (fun r σ1 hF => ?_)
  obtain ⟨v, rfl, hR⟩ := hF
  refine lx_aload_n 2 dL_law_1008 rfl rfl ?_
  refine lx_arg (j := 1) (by omega) (by omega) dL_law_1009 dL_law_1010 dL_law_1011 rfl dL_law_1012 dL_law_1013 ?_
  refine lx_arg (j := 2) (by omega) (by omega) dL_law_1014 dL_law_1015 dL_law_1016 rfl dL_law_1017 dL_law_1018 ?_
  refine lx_callM [.int (xs (i + 1)), .int (xs (i + 2))] [.int v] rfl lqm_X3_width lql_111 lqi_X3_width lqs_X3_width lqn_X3 ok_X3_width (by decide) (Nat.le_of_ble_eq_true rfl) dL_law_1019 hC hSl rfl hR (fun r σ2 hF => ?_)
  obtain ⟨rfl, hJ2⟩ := hF
  exact lx_icmp_eq 1158 dL_law_1022 rfl (fun _ => k _ _ hJ2) (fun z => absurd rfl z)
theorem LC_point {σX σM : St} {q i : Nat} (hi : i + 5 ≤ L) (hL : L ≤ 2560) (hC : C ≤ 600000) (hSl : S ≤ 7302249) (hJ : IJ σX σM q) (hq : q < 2 ^ 29) (k : ∀ σX' σM', IJ σX' σM' (q + 200) → LW g C S b L xs 1158 (LVx g b i) [] σX' σM') : LW g C S b L xs 1027 (LVx g b i) [] σX σM := by
  refine lx_aload_n 1 dL_law_1027 rfl rfl ?_
  refine lx_arg (j := 1) (by omega) (by omega) dL_law_1028 dL_law_1029 dL_law_1030 rfl dL_law_1031 dL_law_1032 ?_
  refine lx_callX [.int (xs (i + 1))] [] rfl lqm_X2_point lql_112 lqi_X2_point lqs_X2_point lqn_X2 ok_X2_point (by decide) (by decide) dL_law_1033 hC hSl rfl (S_point hJ hq) (fun r σ1 hF => ?_)
  obtain ⟨v, rfl, hR⟩ := hF
  refine lx_aload_n 2 dL_law_1036 rfl rfl ?_
  refine lx_arg (j := 1) (by omega) (by omega) dL_law_1037 dL_law_1038 dL_law_1039 rfl dL_law_1040 dL_law_1041 ?_
  refine lx_callM [.int (xs (i + 1))] [.int v] rfl lqm_X3_point lql_115 lqi_X3_point lqs_X3_point lqn_X3 ok_X3_point (by decide) (Nat.le_of_ble_eq_true rfl) dL_law_1042 hC hSl rfl hR (fun r σ2 hF => ?_)
  obtain ⟨rfl, hJ2⟩ := hF
  exact lx_icmp_eq 1158 dL_law_1045 rfl (fun _ => k _ _ hJ2) (fun z => absurd rfl z)
theorem LC_go {σX σM : St} {q i : Nat} (hi : i + 5 ≤ L) (hL : L ≤ 2560) (hC : C ≤ 600000) (hSl : S ≤ 7302249) (hJ : IJ σX σM q) (hq : q < 2 ^ 29) (k : ∀ σX' σM', IJ σX' σM' (q + 200) → LW g C S b L xs 1158 (LVx g b i) [] σX' σM') : LW g C S b L xs 1050 (LVx g b i) [] σX σM := by
  refine lx_aload_n 1 dL_law_1050 rfl rfl ?_
  refine lx_arg (j := 1) (by omega) (by omega) dL_law_1051 dL_law_1052 dL_law_1053 rfl dL_law_1054 dL_law_1055 ?_
  refine lx_zb 1063 1064 dL_law_1056 rfl dL_law_1059 dL_law_1060 rfl dL_law_1063 rfl ?_
  refine lx_callX [.int (bI (!decide ((xs (i + 1)) = nI 0)))] [] rfl lqm_X2_go lql_116 lqi_X2_go lqs_X2_go lqn_X2 ok_X2_go (by decide) (by decide) dL_law_1064 hC hSl rfl (S_go hJ hq) (fun r σ1 hF => ?_)
  obtain ⟨v, rfl, hR⟩ := hF
  refine lx_aload_n 2 dL_law_1067 rfl rfl ?_
  refine lx_arg (j := 1) (by omega) (by omega) dL_law_1068 dL_law_1069 dL_law_1070 rfl dL_law_1071 dL_law_1072 ?_
  refine lx_zb 1080 1081 dL_law_1073 rfl dL_law_1076 dL_law_1077 rfl dL_law_1080 rfl ?_
  refine lx_callM [.int (bI (!decide ((xs (i + 1)) = nI 0)))] [.int v] rfl lqm_X3_go lql_120 lqi_X3_go lqs_X3_go lqn_X3 ok_X3_go (by decide) (Nat.le_of_ble_eq_true rfl) dL_law_1081 hC hSl rfl hR (fun r σ2 hF => ?_)
  obtain ⟨rfl, hJ2⟩ := hF
  exact lx_icmp_eq 1158 dL_law_1084 rfl (fun _ => k _ _ hJ2) (fun z => absurd rfl z)
theorem LC_at {σX σM : St} {q i : Nat} (hi : i + 5 ≤ L) (hL : L ≤ 2560) (hC : C ≤ 600000) (hSl : S ≤ 7302249) (hJ : IJ σX σM q) (hq : q < 2 ^ 29) (k : ∀ σX' σM', IJ σX' σM' (q + 200) → LW g C S b L xs 1158 (LVx g b i) [] σX' σM') : LW g C S b L xs 1089 (LVx g b i) [] σX σM := by
  refine lx_aload_n 1 dL_law_1089 rfl rfl ?_
  refine lx_callX [] [] rfl lqm_X2_at lql_121 lqi_X2_at lqs_X2_at lqn_X2 ok_X2_at (by decide) (by decide) dL_law_1090 hC hSl rfl (S_at hJ hq) (fun r σ1 hF => ?_)
  obtain ⟨v, rfl, hR⟩ := hF
  refine lx_aload_n 2 dL_law_1093 rfl rfl ?_
  refine lx_callM [] [.int v] rfl lqm_X3_at lql_125 lqi_X3_at lqs_X3_at lqn_X3 ok_X3_at (by decide) (Nat.le_of_ble_eq_true rfl) dL_law_1094 hC hSl rfl hR (fun r σ2 hF => ?_)
  obtain ⟨rfl, hJ2⟩ := hF
  exact lx_icmp_eq 1158 dL_law_1097 rfl (fun _ => k _ _ hJ2) (fun z => absurd rfl z)
theorem LC_level {σX σM : St} {q i : Nat} (hi : i + 5 ≤ L) (hL : L ≤ 2560) (hC : C ≤ 600000) (hSl : S ≤ 7302249) (hJ : IJ σX σM q) (hq : q < 2 ^ 29) (k : ∀ σX' σM', IJ σX' σM' (q + 200) → LW g C S b L xs 1158 (LVx g b i) [] σX' σM') : LW g C S b L xs 1102 (LVx g b i) [] σX σM := by
  refine lx_aload_n 1 dL_law_1102 rfl rfl ?_
  refine lx_arg (j := 1) (by omega) (by omega) dL_law_1103 dL_law_1104 dL_law_1105 rfl dL_law_1106 dL_law_1107 ?_
  refine lx_arg (j := 2) (by omega) (by omega) dL_law_1108 dL_law_1109 dL_law_1110 rfl dL_law_1111 dL_law_1112 ?_
  refine lx_callX [.int (xs (i + 1)), .int (xs (i + 2))] [] rfl lqm_X2_level lql_126 lqi_X2_level lqs_X2_level lqn_X2 ok_X2_level (by decide) (by decide) dL_law_1113 hC hSl rfl (S_level hJ hq) (fun r σ1 hF => ?_)
  obtain ⟨v, rfl, hR⟩ := hF
  refine lx_aload_n 2 dL_law_1116 rfl rfl ?_
  refine lx_arg (j := 1) (by omega) (by omega) dL_law_1117 dL_law_1118 dL_law_1119 rfl dL_law_1120 dL_law_1121 ?_
  refine lx_arg (j := 2) (by omega) (by omega) dL_law_1122 dL_law_1123 dL_law_1124 rfl dL_law_1125 dL_law_1126 ?_
  refine lx_callM [.int (xs (i + 1)), .int (xs (i + 2))] [.int v] rfl lqm_X3_level lql_129 lqi_X3_level lqs_X3_level lqn_X3 ok_X3_level (by decide) (Nat.le_of_ble_eq_true rfl) dL_law_1127 hC hSl rfl hR (fun r σ2 hF => ?_)
  obtain ⟨rfl, hJ2⟩ := hF
  exact lx_icmp_eq 1158 dL_law_1130 rfl (fun _ => k _ _ hJ2) (fun z => absurd rfl z)
theorem LC_count {σX σM : St} {q i : Nat} (hi : i + 5 ≤ L) (hL : L ≤ 2560) (hC : C ≤ 600000) (hSl : S ≤ 7302249) (hJ : IJ σX σM q) (hq : q < 2 ^ 29) (k : ∀ σX' σM', IJ σX' σM' (q + 200) → LW g C S b L xs 1158 (LVx g b i) [] σX' σM') : LW g C S b L xs 1135 (LVx g b i) [] σX σM := by
  refine lx_aload_n 1 dL_law_1135 rfl rfl ?_
  refine lx_arg (j := 1) (by omega) (by omega) dL_law_1136 dL_law_1137 dL_law_1138 rfl dL_law_1139 dL_law_1140 ?_
  refine lx_callX [.int (xs (i + 1))] [] rfl lqm_X2_count lql_130 lqi_X2_count lqs_X2_count lqn_X2 ok_X2_count (by decide) (by decide) dL_law_1141 hC hSl rfl (S_count hJ hq) (fun r σ1 hF => ?_)
  obtain ⟨v, rfl, hR⟩ := hF
  refine lx_aload_n 2 dL_law_1144 rfl rfl ?_
  refine lx_arg (j := 1) (by omega) (by omega) dL_law_1145 dL_law_1146 dL_law_1147 rfl dL_law_1148 dL_law_1149 ?_
  refine lx_callM [.int (xs (i + 1))] [.int v] rfl lqm_X3_count lql_133 lqi_X3_count lqs_X3_count lqn_X3 ok_X3_count (by decide) (Nat.le_of_ble_eq_true rfl) dL_law_1150 hC hSl rfl hR (fun r σ2 hF => ?_)
  obtain ⟨rfl, hJ2⟩ := hF
  exact lx_icmp_eq 1158 dL_law_1153 rfl (fun _ => k _ _ hJ2) (fun z => absurd rfl z)
end CASES
