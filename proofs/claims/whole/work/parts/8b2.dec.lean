/-! ===== the law, instruction by instruction ===== -/
theorem dW434 : decode code 434 = .ok (.ireturn, 1) := by decide +kernel
theorem dW435 : decode code 435 = .ok (.aload_n 1, 1) := by decide +kernel
theorem dW436 : decode code 436 = .ok (.aload_n 0, 1) := by decide +kernel
theorem dW437 : decode code 437 = .ok (.iload_n 3, 1) := by decide +kernel
theorem dW438 : decode code 438 = .ok (.iconst 1, 1) := by decide +kernel
theorem dW439 : decode code 439 = .ok (.iadd, 1) := by decide +kernel
theorem dW440 : decode code 440 = .ok (.iaload, 1) := by decide +kernel
theorem dW441 : decode code 441 = .ok (.aload_n 0, 1) := by decide +kernel
theorem dW442 : decode code 442 = .ok (.iload_n 3, 1) := by decide +kernel
theorem dW443 : decode code 443 = .ok (.iconst 2, 1) := by decide +kernel
theorem dW444 : decode code 444 = .ok (.iadd, 1) := by decide +kernel
theorem dW445 : decode code 445 = .ok (.iaload, 1) := by decide +kernel
theorem dW446 : decode code 446 = .ok (.aload_n 0, 1) := by decide +kernel
theorem dW447 : decode code 447 = .ok (.iload_n 3, 1) := by decide +kernel
theorem dW448 : decode code 448 = .ok (.iconst 3, 1) := by decide +kernel
theorem dW449 : decode code 449 = .ok (.iadd, 1) := by decide +kernel
theorem dW450 : decode code 450 = .ok (.iaload, 1) := by decide +kernel
theorem dW451 : decode code 451 = .ok (.invokevirtual 63, 3) := by decide +kernel
theorem dW454 : decode code 454 = .ok (.aload_n 2, 1) := by decide +kernel
theorem dW455 : decode code 455 = .ok (.aload_n 0, 1) := by decide +kernel
theorem dW456 : decode code 456 = .ok (.iload_n 3, 1) := by decide +kernel
theorem dW457 : decode code 457 = .ok (.iconst 1, 1) := by decide +kernel
theorem dW458 : decode code 458 = .ok (.iadd, 1) := by decide +kernel
theorem dW459 : decode code 459 = .ok (.iaload, 1) := by decide +kernel
theorem dW460 : decode code 460 = .ok (.aload_n 0, 1) := by decide +kernel
theorem dW461 : decode code 461 = .ok (.iload_n 3, 1) := by decide +kernel
theorem dW462 : decode code 462 = .ok (.iconst 2, 1) := by decide +kernel
theorem dW463 : decode code 463 = .ok (.iadd, 1) := by decide +kernel
theorem dW464 : decode code 464 = .ok (.iaload, 1) := by decide +kernel
theorem dW465 : decode code 465 = .ok (.aload_n 0, 1) := by decide +kernel
theorem dW466 : decode code 466 = .ok (.iload_n 3, 1) := by decide +kernel
theorem dW467 : decode code 467 = .ok (.iconst 3, 1) := by decide +kernel
theorem dW468 : decode code 468 = .ok (.iadd, 1) := by decide +kernel
theorem dW469 : decode code 469 = .ok (.iaload, 1) := by decide +kernel
theorem dW470 : decode code 470 = .ok (.invokevirtual 67, 3) := by decide +kernel
theorem dW473 : decode code 473 = .ok (.if_icmp .eq 547, 3) := by decide +kernel
theorem dW476 : decode code 476 = .ok (.iconst 0, 1) := by decide +kernel
theorem dW477 : decode code 477 = .ok (.ireturn, 1) := by decide +kernel
theorem dW478 : decode code 478 = .ok (.aload_n 1, 1) := by decide +kernel
theorem dW479 : decode code 479 = .ok (.aload_n 0, 1) := by decide +kernel
theorem dW480 : decode code 480 = .ok (.iload_n 3, 1) := by decide +kernel
theorem dW481 : decode code 481 = .ok (.iconst 1, 1) := by decide +kernel
theorem dW482 : decode code 482 = .ok (.iadd, 1) := by decide +kernel
theorem dW483 : decode code 483 = .ok (.iaload, 1) := by decide +kernel
theorem dW484 : decode code 484 = .ok (.aload_n 0, 1) := by decide +kernel
theorem dW485 : decode code 485 = .ok (.iload_n 3, 1) := by decide +kernel
theorem dW486 : decode code 486 = .ok (.iconst 2, 1) := by decide +kernel
theorem dW487 : decode code 487 = .ok (.iadd, 1) := by decide +kernel
theorem dW488 : decode code 488 = .ok (.iaload, 1) := by decide +kernel
theorem dW489 : decode code 489 = .ok (.invokevirtual 68, 3) := by decide +kernel
theorem dW492 : decode code 492 = .ok (.aload_n 2, 1) := by decide +kernel
theorem dW493 : decode code 493 = .ok (.aload_n 0, 1) := by decide +kernel
theorem dW494 : decode code 494 = .ok (.iload_n 3, 1) := by decide +kernel
theorem dW495 : decode code 495 = .ok (.iconst 1, 1) := by decide +kernel
theorem dW496 : decode code 496 = .ok (.iadd, 1) := by decide +kernel
theorem dW497 : decode code 497 = .ok (.iaload, 1) := by decide +kernel
theorem dW498 : decode code 498 = .ok (.aload_n 0, 1) := by decide +kernel
theorem dW499 : decode code 499 = .ok (.iload_n 3, 1) := by decide +kernel
theorem dW500 : decode code 500 = .ok (.iconst 2, 1) := by decide +kernel
theorem dW501 : decode code 501 = .ok (.iadd, 1) := by decide +kernel
theorem dW502 : decode code 502 = .ok (.iaload, 1) := by decide +kernel
theorem dW503 : decode code 503 = .ok (.invokevirtual 72, 3) := by decide +kernel
theorem dW506 : decode code 506 = .ok (.if_icmp .eq 514, 3) := by decide +kernel
theorem dW509 : decode code 509 = .ok (.iconst 0, 1) := by decide +kernel
theorem dW510 : decode code 510 = .ok (.ireturn, 1) := by decide +kernel
theorem dW511 : decode code 511 = .ok (.aload_n 1, 1) := by decide +kernel
theorem dW512 : decode code 512 = .ok (.aload_n 0, 1) := by decide +kernel
theorem dW513 : decode code 513 = .ok (.iload_n 3, 1) := by decide +kernel
theorem dW514 : decode code 514 = .ok (.iconst 1, 1) := by decide +kernel
theorem dW515 : decode code 515 = .ok (.iadd, 1) := by decide +kernel
theorem dW516 : decode code 516 = .ok (.iaload, 1) := by decide +kernel
theorem dW517 : decode code 517 = .ok (.invokevirtual 73, 3) := by decide +kernel
theorem dW520 : decode code 520 = .ok (.aload_n 2, 1) := by decide +kernel
theorem dW521 : decode code 521 = .ok (.aload_n 0, 1) := by decide +kernel
theorem dW522 : decode code 522 = .ok (.iload_n 3, 1) := by decide +kernel
theorem dW523 : decode code 523 = .ok (.iconst 1, 1) := by decide +kernel
theorem dW524 : decode code 524 = .ok (.iadd, 1) := by decide +kernel
theorem dW525 : decode code 525 = .ok (.iaload, 1) := by decide +kernel
theorem dW526 : decode code 526 = .ok (.invokevirtual 76, 3) := by decide +kernel
theorem dW529 : decode code 529 = .ok (.if_icmp .eq 491, 3) := by decide +kernel
theorem dW532 : decode code 532 = .ok (.iconst 0, 1) := by decide +kernel
theorem dW533 : decode code 533 = .ok (.ireturn, 1) := by decide +kernel
theorem dW534 : decode code 534 = .ok (.aload_n 1, 1) := by decide +kernel
theorem dW535 : decode code 535 = .ok (.aload_n 0, 1) := by decide +kernel
theorem dW536 : decode code 536 = .ok (.iload_n 3, 1) := by decide +kernel
theorem dW537 : decode code 537 = .ok (.iconst 1, 1) := by decide +kernel
theorem dW538 : decode code 538 = .ok (.iadd, 1) := by decide +kernel
theorem dW539 : decode code 539 = .ok (.iaload, 1) := by decide +kernel
theorem dW540 : decode code 540 = .ok (.invokevirtual 77, 3) := by decide +kernel
theorem dW543 : decode code 543 = .ok (.aload_n 2, 1) := by decide +kernel
theorem dW544 : decode code 544 = .ok (.aload_n 0, 1) := by decide +kernel
theorem dW545 : decode code 545 = .ok (.iload_n 3, 1) := by decide +kernel
theorem dW546 : decode code 546 = .ok (.iconst 1, 1) := by decide +kernel
theorem dW547 : decode code 547 = .ok (.iadd, 1) := by decide +kernel
theorem dW548 : decode code 548 = .ok (.iaload, 1) := by decide +kernel
theorem dW549 : decode code 549 = .ok (.invokevirtual 80, 3) := by decide +kernel
theorem dW552 : decode code 552 = .ok (.if_icmp .eq 468, 3) := by decide +kernel
theorem dW555 : decode code 555 = .ok (.iconst 0, 1) := by decide +kernel
theorem dW556 : decode code 556 = .ok (.ireturn, 1) := by decide +kernel
theorem dW557 : decode code 557 = .ok (.aload_n 1, 1) := by decide +kernel
theorem dW558 : decode code 558 = .ok (.invokevirtual 81, 3) := by decide +kernel
theorem dW561 : decode code 561 = .ok (.aload_n 2, 1) := by decide +kernel
theorem dW562 : decode code 562 = .ok (.invokevirtual 84, 3) := by decide +kernel
theorem dW565 : decode code 565 = .ok (.if_icmp .eq 455, 3) := by decide +kernel
theorem dW568 : decode code 568 = .ok (.iconst 0, 1) := by decide +kernel
theorem dW569 : decode code 569 = .ok (.ireturn, 1) := by decide +kernel
theorem dW570 : decode code 570 = .ok (.aload_n 1, 1) := by decide +kernel
theorem dW571 : decode code 571 = .ok (.aload_n 0, 1) := by decide +kernel
theorem dW572 : decode code 572 = .ok (.iload_n 3, 1) := by decide +kernel
theorem dW573 : decode code 573 = .ok (.iconst 1, 1) := by decide +kernel
theorem dW574 : decode code 574 = .ok (.iadd, 1) := by decide +kernel
theorem dW575 : decode code 575 = .ok (.iaload, 1) := by decide +kernel
theorem dW576 : decode code 576 = .ok (.invokevirtual 85, 3) := by decide +kernel
theorem dW579 : decode code 579 = .ok (.aload_n 2, 1) := by decide +kernel
theorem dW580 : decode code 580 = .ok (.aload_n 0, 1) := by decide +kernel
theorem dW581 : decode code 581 = .ok (.iload_n 3, 1) := by decide +kernel
theorem dW582 : decode code 582 = .ok (.iconst 1, 1) := by decide +kernel
theorem dW583 : decode code 583 = .ok (.iadd, 1) := by decide +kernel
theorem dW584 : decode code 584 = .ok (.iaload, 1) := by decide +kernel
theorem dW585 : decode code 585 = .ok (.invokevirtual 88, 3) := by decide +kernel
