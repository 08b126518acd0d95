/** Promises 5 and 6: how bytes are cut into TOKENS, what stands where, and FAULTS. */
final class EdgesOfTexts {
    private static final String CHOOSE = "choose 1 case 1:1 else ";

    private EdgesOfTexts() {
    }

    // ---- TOKENS ----

    @Says(promise = 5, words = "TOKENS, blanks (32, 10) aside")
    static void blanks() {
        Due.sound("");
        Due.sound(" ");
        Due.sound("\n");
        Due.sound(" \n ask \n ; \n ");
        for (int none : new int[] {0, 1, 9, 11, 12, 13, 31, 127, 128, 160, 255}) {
            Due.faulty("ask " + (char) none + ";", 1, 4);
            Due.faulty("ask; " + (char) none, 1, 5);
            Due.faulty((char) none + "ask;", 1, 0);
        }
    }

    @Says(promise = 5, words = "letters a .. z, A .. Z one behind the other (one TOKEN)")
    static void letters() {
        // A letter behind ask makes one TOKEN that is none; a sign that isn't a letter is one of its own.
        for (char letter : new char[] {'a', 'z', 'A', 'Z', 'm', 'M'}) {
            Due.faulty("ask" + letter + ";", 1, 0);
            Due.faulty(letter + "ask;", 1, 0);
        }
        for (char none : new char[] {'@', '[', '`', '{', '_', '!', '.', ',', '&', (char) 233}) {
            Due.faulty("ask" + none + ";", 1, 3);
        }
        Due.faulty("ASK;", 1, 0);
        Due.faulty("Ask;", 1, 0);
        Due.faulty("as k;", 1, 0);
        Due.faulty("ask;askask;", 1, 4);
        Due.faulty("as;", 1, 0);
    }

    @Says(promise = 5, words = "digits likewise (NUMBERS, 0 .. 9999)")
    static void digits() {
        Due.sound("lag 0;");
        Due.sound("lag 9999;");
        Due.sound("lag 00009999;");
        Due.sound("say 007;");
        Due.sound("guest5hears9;say0;");
        Due.faulty("lag 10000;", 2, 4);
        Due.faulty("lag 1 2;", 1, 6);
        Due.faulty("say 1a;", 1, 5);
        Due.faulty("say a1;", 1, 4);
        LastWordAt x = Edge.table(1);
        Edge.rule(x, "lag 0042;");
        Due.due("lag 0042", x.of(0, 7), 42);
    }

    @Says(promise = 6, words = "2 a NUMBER that isn't one of those told (above 9999;")
    static void numbersDoNotWrapAround() {
        for (String large : new String[] {"10000", "65536", "65537", "99999", "2147483648", "4294967296", "4294967297",
            "18446744073709551616", "18446744073709551617", "100000000000000000000000000000000000000000"}) {
            Due.faulty("lag " + large + ";", 2, 4);
            Due.faulty("say " + large + ";", 2, 4);
            Due.faulty("pass " + large + ";", 2, 5);
            Due.faulty("lag choose 1 case " + large + ":1 else 1 end;", 2, 18);
        }
    }

    @Says(promise = 5, words = "<= >= < > = # + - * / ( ) : ; (the longest)")
    static void theLongestSign() {
        Due.sound("counts 1<=2;");
        Due.sound("counts 1>=2;");
        Due.sound("counts 1<2;");
        Due.sound("counts 1>2;");
        Due.sound("counts 1=2;");
        Due.sound("counts 1#2;");
        Due.sound("counts 1+1-1*1/1=(1);");
        Due.sound("lag--1;");
        Due.sound("lag 1--1;");
        Due.faulty("counts 1< =2;", 1, 10);
        Due.faulty("counts 1> =2;", 1, 10);
        Due.faulty("counts 1=<2;", 1, 9);
        Due.faulty("counts 1=>2;", 1, 9);
        Due.faulty("counts 1==2;", 1, 9);
        Due.faulty("counts 1<>2;", 1, 9);
        Due.faulty("counts 1<<2;", 1, 9);
        Due.faulty("counts 1<==2;", 1, 10);
        Due.faulty("counts 1>", 1, 9);
        Due.faulty("counts 1<=", 1, 10);
    }

    // ---- CLAUSES ----

    @Says(promise = 5, words = "{CLAUSE}, 24 at most")
    static void twentyFourClauses() {
        Due.sound("");
        Due.sound("ask;".repeat(24));
        Due.sound("counts 1<2;lag 1;dies 1;" + "dinner;".repeat(21));
        LastWordAt x = Due.sound("ask;".repeat(24));
        Due.due("played", x.played(0), -1);
        Due.due("all of them", x.log(-1, 0), 24);
    }

    @Says(promise = 6, words = "6 the 25th CLAUSE (at its first TOKEN).")
    static void theTwentyFifthClause() {
        Due.faulty("ask;".repeat(25), 6, 96);
        Due.faulty("ask;".repeat(24) + "  ask", 6, 98);
        Due.faulty("ask;".repeat(24) + "say 8;", 6, 96);
        Due.faulty("ask;".repeat(24) + "lag 1;", 6, 96);
        Due.faulty("lag 1;" + "ask;".repeat(23) + "dies", 6, 98);
        Due.faulty("ask;".repeat(26), 6, 96);
        Due.faulty("ask;".repeat(25) + "?", 6, 96);
    }

    @Says(promise = 5, words = "dies SUM ; (each once)")
    static void eachLawOnce() {
        Due.sound("counts 1<2;");
        Due.sound("lag 1;");
        Due.sound("dies 1;");
        Due.sound("dies 1;lag 1;counts 1<2;");
        Due.sound("say 1;say 1;oh 1;oh 1;toast 1;toast 1;bye 1;bye 1;ask;ask;pass 1;pass 1;send 1;send 1;dinner;dinner;");
        Due.sound("guest 1 hears 1;guest 1 hears 1;");
    }

    @Says(promise = 6, words = "4 counts, lag, dies for the second time (at it).")
    static void aLawForTheSecondTime() {
        Due.faulty("counts 1<2;counts 1<2;", 4, 11);
        Due.faulty("lag 1;lag 1;", 4, 6);
        Due.faulty("dies 1;dies 1;", 4, 7);
        Due.faulty("lag 1;dies 1;counts 1<2; lag", 4, 25);
        Due.faulty("dies 1;ask;dies", 4, 11);
    }

    @Says(promise = 5, words = "guest NUMBER hears NUMBER ; (RANK; GOES NONE)")
    static void aGuestOfAText() {
        LastWordAt x = Due.sound("guest 9 hears 0;guest 0 hears 9;");
        Due.due("played", x.played(0), -1);
        int[][] want = {{9, 0, -1}, {0, 9, -1}};
        for (int g = 0; g < 2; g++) {
            for (int what = 0; what < 3; what++) {
                Due.due("of(" + g + ", " + what + ")", x.of(g, what), want[g][what]);
            }
        }
        Due.faulty("guest;", 1, 5);
        Due.faulty("guest 1;", 1, 7);
        Due.faulty("guest 1 2;", 1, 8);
        Due.faulty("guest 1 hears;", 1, 13);
        Due.faulty("guest 1 hears 2 3;", 1, 16);
        Due.faulty("guest hears 2;", 1, 6);
    }

    @Says(promise = 5, words = "say NUMBER ; or oh NUMBER ; or toast NUMBER ; or bye NUMBER ; (a good night) or ask ;")
    static void deedsWithAndWithoutNumbers() {
        for (String deed : new String[] {"say", "oh", "toast", "bye", "pass", "send"}) {
            Due.sound(deed + " 1;");
            Due.faulty(deed, 1, deed.length());
            Due.faulty(deed + ";", 1, deed.length());
            Due.faulty(deed + " -1;", 1, deed.length() + 1);
            Due.faulty(deed + " 1 1;", 1, deed.length() + 3);
            Due.faulty(deed + " (1);", 1, deed.length() + 1);
            Due.faulty(deed + " rank;", 1, deed.length() + 1);
        }
        for (String deed : new String[] {"ask", "dinner"}) {
            Due.sound(deed + ";");
            Due.faulty(deed, 1, deed.length());
            Due.faulty(deed + " 1;", 1, deed.length() + 1);
            Due.faulty(deed + " " + deed + ";", 1, deed.length() + 1);
        }
    }

    // ---- laws ----

    @Says(promise = 5, words = "EITHER: BOTH {or BOTH}.")
    static void whatOrJoins() {
        Due.sound("counts 1<2;");
        Due.sound("counts 1<2" + " or 1<2".repeat(30) + ";");
        Due.faulty("counts;", 1, 6);
        Due.faulty("counts or 1<2;", 1, 7);
        Due.faulty("counts 1<2 or;", 1, 13);
        Due.faulty("counts 1<2 or or 1<2;", 1, 14);
        Due.faulty("lag 1 or 2;", 1, 6);
    }

    @Says(promise = 5, words = "BOTH: ASK {and ASK}.")
    static void whatAndJoins() {
        Due.sound("counts 1<2" + " and 1<2".repeat(30) + ";");
        Due.faulty("counts and 1<2;", 1, 7);
        Due.faulty("counts 1<2 and;", 1, 14);
        Due.faulty("counts 1<2 and or 1<2;", 1, 15);
        Due.faulty("counts 1 and 2;", 1, 9);
        Due.faulty("dies 1 and 2;", 1, 7);
    }

    @Says(promise = 5, words = "ASK: not ASK, or SUM one of < <= > >= = # (unlike) SUM.")
    static void whatIsAsked() {
        Due.faulty("counts 1;", 1, 8);
        Due.faulty("counts 1<;", 1, 9);
        Due.faulty("counts <2;", 1, 7);
        Due.faulty("counts 1<2<3;", 1, 10);
        Due.faulty("counts (1<2);", 1, 9);
        Due.faulty("counts not;", 1, 10);
        Due.faulty("counts not 1;", 1, 12);
        Due.faulty("counts 1<not 2;", 1, 9);
        Due.faulty("counts 1 not <2;", 1, 9);
        Due.faulty("counts not (not 1<2);", 1, 12);
        Due.faulty("lag not 1;", 1, 4);
        Due.faulty("lag 1<2;", 1, 5);
    }

    @Says(promise = 5, words = "SUM: PRODUCT {+ or - PRODUCT}. PRODUCT: ONE {* or / ONE}.")
    static void whatSumsAre() {
        Due.faulty("lag;", 1, 3);
        Due.faulty("lag", 1, 3);
        Due.faulty("lag +1;", 1, 4);
        Due.faulty("lag *1;", 1, 4);
        Due.faulty("lag 1+;", 1, 6);
        Due.faulty("lag 1*;", 1, 6);
        Due.faulty("lag 1/*1;", 1, 6);
        Due.faulty("lag 1++1;", 1, 6);
        Due.faulty("lag 1 1;", 1, 6);
        Due.faulty("lag 1:1;", 1, 5);
    }

    @Says(promise = 5, words = "ONE: NUMBER, NAME, ( SUM ), - ONE, choose SUM")
    static void whatOneIs() {
        Due.sound("lag (1);");
        Due.sound("lag -(1);");
        Due.sound("lag -rank;");
        Due.sound("lag (rank+1)*-hears;");
        Due.faulty("lag ();", 1, 5);
        Due.faulty("lag (1;", 1, 6);
        Due.faulty("lag 1);", 1, 5);
        Due.faulty("lag (1));", 1, 7);
        Due.faulty("lag -;", 1, 5);
        Due.faulty("lag say;", 1, 4);
        Due.faulty("lag end;", 1, 4);
        Due.faulty("lag foo;", 1, 4);
        Due.faulty("lag ;", 1, 4);
    }

    @Says(promise = 5, words = "(1 to 6 cases; to once at most in each, its NUMBER no less than the one ahead)")
    static void oneToSixCases() {
        Due.sound("lag choose 1 case 1:1 else 1 end;");
        Due.sound("lag choose 1" + " case 1:1".repeat(6) + " else 1 end;");
        Due.sound("lag choose 1 case 5 to 5:1 else 1 end;");
        Due.sound("lag choose 1 case 0 to 0:1 else 1 end;");
        Due.sound("lag choose 1 case 0 to 9999:1 else 1 end;");
        Due.sound("lag choose 1" + " case 1 to 2:1".repeat(6) + " else 1 end;");
        Due.faulty("lag choose 1 else 1 end;", 1, 13);
        Due.faulty("lag choose 1 end;", 1, 13);
        Due.faulty("lag choose 1;", 1, 12);
        Due.faulty("lag choose case 1:1 else 1 end;", 1, 11);
        Due.faulty("lag choose 1 case 1 to 2 to 3:1 else 1 end;", 1, 25);
        Due.faulty("lag choose 1 case 1 to:1 else 1 end;", 1, 22);
        Due.faulty("lag choose 1 case 1 1:1 else 1 end;", 1, 20);
        Due.faulty("lag choose 1 case:1 else 1 end;", 1, 17);
        Due.faulty("lag choose 1 case -1:1 else 1 end;", 1, 18);
        Due.faulty("lag choose 1 case rank:1 else 1 end;", 1, 18);
        Due.faulty("lag choose 1 case 1 to rank:1 else 1 end;", 1, 23);
        Due.faulty("lag choose 1 case 1 1 else 1 end;", 1, 20);
        Due.faulty("lag choose 1 case 1: else 1 end;", 1, 21);
        Due.faulty("lag choose 1 case 1:1 end;", 1, 22);
        Due.faulty("lag choose 1 case 1:1 else end;", 1, 27);
        Due.faulty("lag choose 1 case 1:1 else 1;", 1, 28);
        Due.faulty("lag choose 1 case 1:1 else 1 else 1 end;", 1, 29);
        Due.faulty("lag choose 1 case 1:1 else 1 case 1:1 end;", 1, 29);
        Due.faulty("lag case 1:1 else 1 end;", 1, 4);
    }

    @Says(promise = 6, words = "7 the 7th case of one choose (at it)")
    static void theSeventhCase() {
        String six = "lag choose 1" + " case 1:1".repeat(6);
        Due.faulty(six + " case 1:1 else 1 end;", 7, 67);
        Due.faulty(six + " case", 7, 67);
        Due.faulty(six + " case 10000:1", 7, 67);
        // Of one choose: another one's don't count.
        String inner = "choose 1" + " case 1:1".repeat(6) + " else 1 end";
        Due.sound("lag choose " + inner + " case 1:1 else 1 end;");
        Due.sound("lag choose 1 case 1:" + inner + " case 1:1 else 1 end;");
        Due.sound("lag choose 1" + " case 1:1".repeat(6) + " else " + inner + " end;");
        Due.sound("lag " + inner + "+" + inner + ";");
        Due.faulty("lag choose 1 case 1:choose 1" + " case 1:1".repeat(7), 7, 28 + 6 * 9 + 1);
    }

    @Says(promise = 6, words = "a NUMBER behind to that is less than the one ahead (at it).")
    static void aNumberBehindToThatIsLess() {
        Due.faulty("lag choose 1 case 5 to 4:1 else 1 end;", 7, 23);
        Due.faulty("lag choose 1 case 1 to 0:1 else 1 end;", 7, 23);
        Due.faulty("lag choose 1 case 9999 to 9998:1 else 1 end;", 7, 26);
        Due.faulty("lag choose 1 case 10 to 9", 7, 24);
        Due.sound("lag choose 1 case 9999 to 9999:1 else 1 end;");
        Due.sound("lag choose 1 case 10 to 010:1 else 1 end;");
        // The one ahead is that of the same case.
        Due.sound("lag choose 1 case 8 to 9:1 case 1 to 2:1 else 1 end;");
    }

    // ---- FAULTS ----

    @Says(promise = 6, words = "FAULTS, the first as TOKENS are come to, at the TOKEN's first byte")
    static void theFirstFault() {
        Due.faulty("say 8; lag x; ?", 2, 4);
        Due.faulty("say x; say 8;", 1, 4);
        Due.faulty("lag 10000 ?;", 2, 4);
        Due.faulty("lag said+10000;", 5, 4);
        Due.faulty("lag 10000+said;", 2, 4);
        Due.faulty("lag 1; ask ask; lag 1;", 1, 11);
        Due.faulty("lag 1; lag 1; ask ask;", 4, 7);
        Due.faulty("  \n strange;", 1, 4);
        Due.faulty("lag\n\n 12345;", 2, 6);
    }

    @Says(promise = 6, words = "(of the end at the length)")
    static void theFaultOfTheEnd() {
        Due.faulty("ask", 1, 3);
        Due.faulty("ask   ", 1, 6);
        Due.faulty("ask\n", 1, 4);
        Due.faulty("lag", 1, 3);
        Due.faulty("lag 1+", 1, 6);
        Due.faulty("lag (", 1, 5);
        Due.faulty("counts not", 1, 10);
        Due.faulty("say", 1, 3);
        Due.faulty("guest 1 hears ", 1, 14);
        Due.faulty("lag choose 1 case 1 to", 1, 22);
    }

    @Says(promise = 6, words = "of one the least")
    static void theLeastFaultOfAToken() {
        // A second law that is the 25th CLAUSE, too; a number, too large, where none can stand.
        Due.faulty("lag 1;" + "ask;".repeat(23) + "lag 1;", 4, 98);
        Due.faulty("ask;".repeat(24) + "?", 1, 96);
        Due.faulty("ask;".repeat(24) + ";", 1, 96);
        Due.faulty("ask;".repeat(24) + "10000", 1, 96);
        Due.faulty("ask;".repeat(24) + "night", 1, 96);
        Due.faulty("lag 1 10000;", 1, 6);
        Due.faulty("ask 10000;", 1, 4);
        Due.faulty("lag 1 said;", 1, 6);
        Due.faulty("lag ((((((((not", 1, 12);
        Due.faulty("lag ((((((((+", 1, 12);
        Due.faulty("lag ((((((((1 (", 1, 14);
        Due.faulty("lag choose 1" + " case 1:1".repeat(6) + " else 1 case", 1, 74);
    }

    @Says(promise = 6, words = "1 it can't stand there, or is none.")
    static void whatCannotStandThere() {
        Due.faulty(";", 1, 0);
        Due.faulty("1;", 1, 0);
        Due.faulty("night;", 1, 0);
        Due.faulty("hears 1;", 1, 0);
        Due.faulty("ask;;", 1, 4);
        Due.faulty("not;", 1, 0);
        Due.faulty("case;", 1, 0);
        Due.faulty("!", 1, 0);
        Due.faulty("lag 1?1;", 1, 5);
        Due.faulty("lag $;", 1, 4);
    }

    @Says(promise = 6, words = "RANKS, HEARS 0 .. 9, GUESTS 0 .. 7, of pass 1 .. 60; of cases any).")
    static void numbersOfClauses() {
        Due.sound("guest 0 hears 0;guest 9 hears 9;");
        Due.faulty("guest 10 hears 1;", 2, 6);
        Due.faulty("guest 1 hears 10;", 2, 14);
        for (String deed : new String[] {"say", "oh", "toast", "bye", "send"}) {
            Due.sound(deed + " 0;" + deed + " 7;");
            Due.faulty(deed + " 8;", 2, deed.length() + 1);
            Due.faulty(deed + " 9;", 2, deed.length() + 1);
        }
        Due.sound("pass 1;pass 60;");
        Due.faulty("pass 0;", 2, 5);
        Due.faulty("pass 61;", 2, 5);
        Due.faulty("pass 00;", 2, 5);
        Due.sound("lag choose 1 case 0:1 case 9999:1 case 0 to 9999:1 else 1 end;");
        Due.faulty("lag choose 1 case 10000:1 else 1 end;", 2, 18);
        Due.faulty("lag choose 1 case 1 to 10000:1 else 1 end;", 2, 23);
    }

    @Says(promise = 6, words = "3 the 9th of ( not choose and - (of one ONE) that are open around one another (at it).")
    static void theNinthThatIsOpen() {
        Due.sound("lag " + "(".repeat(8) + "1" + ")".repeat(8) + ";");
        Due.faulty("lag " + "(".repeat(9) + "1" + ")".repeat(9) + ";", 3, 12);
        Due.sound("lag " + "-".repeat(8) + "1;");
        Due.faulty("lag " + "-".repeat(9) + "1;", 3, 12);
        Due.sound("counts " + "not ".repeat(8) + "1<2;");
        Due.faulty("counts " + "not ".repeat(9) + "1<2;", 3, 39);
        Due.sound("lag " + CHOOSE.repeat(8) + "1" + " end".repeat(8) + ";");
        Due.faulty("lag " + CHOOSE.repeat(9) + "1" + " end".repeat(9) + ";", 3, 4 + 8 * CHOOSE.length());
        // One of each kind, around one another.
        Due.sound("counts not 1<-(-(choose -(1) case 1:1 else 1 end));");
        Due.faulty("counts not 1<-(-(choose -(-1) case 1:1 else 1 end));", 3, 26);
        Due.faulty("counts not not 1<-(-(choose -(1) case 1:1 else 1 end));", 3, 29);
    }

    @Says(promise = 6, words = "that are open around one another")
    static void whatIsClosedIsNotOpen() {
        Due.sound("lag " + "(1)+".repeat(20) + "(1);");
        Due.sound("lag " + "-1*".repeat(20) + "-1;");
        Due.sound("lag 1" + "-1".repeat(20) + ";");
        Due.sound("lag " + "(-(-1))*".repeat(10) + "1;");
        Due.sound("counts " + "not 1<2 and ".repeat(12) + "1<2;");
        Due.sound("lag " + (CHOOSE + "1 end+").repeat(9) + "1;");
        // not is open in both SUMS of its ASK, not behind it.
        Due.faulty("counts " + "not ".repeat(8) + "1<-1;", 3, 41);
        Due.faulty("counts " + "not ".repeat(8) + "(1)<1;", 3, 39);
        Due.sound("counts " + "not ".repeat(7) + "(1)<-1 and " + "not ".repeat(8) + "1<1;");
        // choose is open in all its SUMS.
        Due.faulty("lag choose ((((((((1", 3, 18);
        Due.faulty("lag choose 1 case 1: ((((((((1", 3, 28);
        Due.faulty("lag choose 1 case 1:1 else ((((((((1", 3, 34);
        Due.sound("lag choose (((((((1))))))) case 1:(((((((1))))))) else (((((((1))))))) end + ((((((((1))))))));");
    }

    @Says(promise = 6, words = "5 a NAME that isn't of that CLAUSE (at it).")
    static void namesOfAnotherClause() {
        for (String name : new String[] {"night", "moment", "wine"}) {
            Due.sound("counts " + name + ">1;lag " + name + ";dies " + name + ";");
        }
        for (String name : new String[] {"rank", "hears", "kind", "words", "since", "guests", "has"}) {
            Due.sound("counts " + name + ">1;lag " + name + ";");
            Due.faulty("dies " + name + ";", 5, 5);
            Due.faulty("lag " + name + ";dies 1-" + name, 5, 4 + name.length() + 8);
        }
        for (String name : new String[] {"said", "heirs"}) {
            Due.sound("dies " + name + ";");
            Due.faulty("lag " + name + ";", 5, 4);
            Due.faulty("counts 1>(" + name, 5, 10);
            Due.faulty("counts " + name + ">1;", 5, 7);
            Due.faulty("dies " + name + ";lag " + name, 5, 10 + name.length());
        }
    }
}
