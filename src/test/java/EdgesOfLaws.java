/** Promises 8, 12, 13 and 16: what laws come to, and how a TEXT is PLAYED. */
final class EdgesOfLaws {
    private EdgesOfLaws() {
    }

    /** A word of a new GUEST (RANK 3, HEARS 5) FALLS so much later. */
    private static void lag(String sum, int want) {
        LastWordAt x = Due.sound("lag " + sum + ";");
        x.guest(3, 5, -1);
        x.by(0);
        Due.due("lag " + sum, x.of(0, 7), want);
    }

    private static void counts(String either, boolean want) {
        LastWordAt x = Due.sound("counts " + either + ";");
        x.guest(3, 5, -1);
        x.by(0);
        Due.due("counts " + either, x.of(0, 7), want ? 0 : -1);
    }

    private static void dies(String sum, int want) {
        LastWordAt x = Due.sound("dies " + sum + ";");
        x.by(0);
        x.dinner();
        Due.due("dies " + sum, x.book(0, 2), want);
    }

    // ---- what SUMS come to ----

    @Says(promise = 16, words = "/ cuts towards 0, by 0 it is 0")
    static void divisions() {
        lag("7/2", 3);
        lag("10+-7/2", 7);
        lag("10+7/-2", 7);
        lag("10+-7/-2", 13);
        lag("1/2", 0);
        lag("10+-1/2", 10);
        lag("7/0", 0);
        lag("10+-7/0", 10);
        lag("10+0/0", 10);
        lag("4+7/(1-1)", 4);
        lag("4+7/night", 4);
        lag("7/0*5+2", 2);
    }

    @Says(promise = 16, words = "what is above 1000000 (below the same less) is that, at each step.")
    static void theMostAndTheLeast() {
        lag("1000*1000/1000-990", 10);
        lag("1010-1000*1000/1000", 10);
        lag("1010+-1000*1000/1000", 10);
        counts("1000*1000-1#1000*1000", true);
        counts("1000*1000+1=1000*1000", true);
        counts("1000*1000+9999=1000*1000", true);
        counts("1000*1001-1=1000*1000-1", true);
        counts("9999*9999=1000*1000", true);
        counts("9999*9999*9999=1000*1000", true);
        counts("(1000*1000)*(1000*1000)=1000*1000", true);
        counts("9999*9999*9999*9999*9999/9999=1000*1000/9999", true);
        counts("1-1000*1000#-1000*1000", true);
        counts("-1000*1000-1=-1000*1000", true);
        counts("0-1000*1001+1=1-1000*1000", true);
        counts("-9999*9999=0-1000*1000", true);
        counts("(1000*1000)*(0-1000*1000)=-1000*1000", true);
        counts("-(9999*9999)=-1000*1000", true);
        counts("--(9999*9999)=1000*1000", true);
        counts("9999*9999-9999*9999=0", true);
        counts("999*1001+1=1000*1000", true);
        counts("-999*1001-1=-1000*1000", true);
    }

    @Says(promise = 16, words = "From the left")
    static void fromTheLeft() {
        lag("20-5-3", 12);
        lag("90/7/2", 6);
        lag("7/2*2", 6);
        lag("2*7/2", 7);
        lag("1+2*3", 7);
        lag("(1+2)*3", 9);
        lag("9-2+3", 10);
        counts("1000*1000+1-1=1000*1000-1", true);
    }

    @Says(promise = 16, words = "or and and look at both sides always.")
    static void bothSides() {
        counts("1<2 or 1/0<0", true);
        counts("1>2 and 1/0<0", false);
        counts("1>2 or 1<2", true);
        counts("1<2 or 1>2", true);
        counts("1>2 or 1>2", false);
        counts("1<2 and 1>2", false);
        counts("1>2 and 1<2", false);
        counts("1<2 and 1<2", true);
        counts("1<2 or 1<2 and 1>2", true);
        counts("1>2 and 1>2 or 1<2", true);
        counts("1>2 and 1<2 or 1>2", false);
        counts("not 1<2 or 1<2", true);
        counts("not 1<2 and 1>2", false);
        counts("not not 1<2 and 1<2", true);
    }

    @Says(promise = 16, words = "SUM one of < <= > >= = # (unlike) SUM")
    static void comparisonsOfLikeOnes() {
        String[] ops = {"<", "<=", ">", ">=", "=", "#"};
        boolean[] less = {true, true, false, false, false, true};
        boolean[] same = {false, true, false, true, true, false};
        boolean[] more = {false, false, true, true, false, true};
        for (int i = 0; i < 6; i++) {
            counts("4" + ops[i] + "5", less[i]);
            counts("5" + ops[i] + "5", same[i]);
            counts("6" + ops[i] + "5", more[i]);
            counts("-1" + ops[i] + "0", less[i]);
            counts("not 4" + ops[i] + "5", !less[i]);
            counts("not 5" + ops[i] + "5", !same[i]);
            counts("not 6" + ops[i] + "5", !more[i]);
            counts("not not 4" + ops[i] + "5", less[i]);
            counts("4" + ops[i] + "5 and 1=1", less[i]);
            counts("1=1 and 6" + ops[i] + "5", more[i]);
        }
    }

    @Says(promise = 16, words = "choose: the SUM of the first case whose NUMBER it is (or from one to the other one), else the last one; just this is asked.")
    static void chosenCases() {
        String sum = "case 3:1 case 5 to 7:2 case 7 to 8:3 case 3:4 case 0:5 else 6 end";
        int[] want = {5, 6, 6, 1, 6, 2, 2, 2, 3, 6};
        for (int i = 0; i < 10; i++) {
            lag("choose " + i + " " + sum, want[i]);
        }
        lag("choose -1 " + sum, 6);
        lag("choose -3 " + sum, 6);
        lag("choose 9999 case 9999:1 else 2 end", 1);
        lag("choose 9999*9999 case 0 to 9999:1 else 2 end", 2);
        lag("choose 9999+1 case 0 to 9999:1 else 2 end", 2);
        lag("choose 0 case 0 to 9999:1 else 2 end", 1);
        lag("choose 6 case 1:1 case 2:2 case 3:3 case 4:4 case 5:5 case 6:6 else 7 end", 6);
        lag("choose 7 case 1:1 case 2:2 case 3:3 case 4:4 case 5:5 case 6:6 else 7 end", 7);
        lag("10*choose 1 case 1:choose 2 case 1:1 else 3 end+1 else 9 end+2", 42);
    }

    // ---- NAMES ----

    @Says(promise = 16, words = "NAMES: night, moment, wine in all")
    static void namesInAll() {
        LastWordAt x = Edge.table(1);
        Edge.rule(x, "counts night+moment+wine>=0;lag night*50+moment*10+wine;dies night*50+moment*10+wine;");
        Due.due("at first", x.of(0, 7), 0);
        x.dinner();
        x.say(0, 2);
        x.pass(2);
        Due.due("lag", x.of(0, 7), 2 + 71);
        x.dinner();
        Due.due("dies at first", x.book(0, 2), 0);
        Due.due("dies", x.book(1, 2), 71);
    }

    @Says(promise = 8, words = "rank, hears, kind, words (its own so far)")
    static void namesOfTheSpeaker() {
        LastWordAt x = new LastWordAt();
        x.guest(0, 9, -1);
        x.guest(9, 0, -1);
        Due.read(x, "lag rank;");
        Due.read(x, "lag hears;");
        Due.read(x, "lag kind*10;");
        x.by(0);
        Due.due("RANK 0", x.say(0, 0), 0);
        Due.due("RANK 9", x.say(1, 0), 9);
        x.by(1);
        Due.due("HEARS 9", x.say(0, 0), 9);
        Due.due("HEARS 0", x.say(1, 0), 0);
        x.by(2);
        for (int kind = 0; kind <= 3; kind++) {
            Due.due("KIND " + kind, x.say(0, kind), kind * 10);
        }
    }

    @Says(promise = 16, words = "words (its own so far), since (MOMENT less LAST; 99 if it didn't speak)")
    static void wordsAndSince() {
        LastWordAt x = Edge.table(2);
        Due.read(x, "lag words;");
        Due.read(x, "lag since;");
        x.by(0);
        Due.due("no words", x.of(0, 7), 0);
        Due.read(x, "counts since=99;");
        x.by(2);
        Due.due("just 99", x.of(0, 7), 0);
        x.by(1);
        Due.due("it didn't speak", x.of(0, 7), 99);
        x.pass(1);
        Due.due("it didn't speak yet", x.of(0, 7), 100);
        Due.due("said", x.say(0, 0), 100);
        Due.due("in the same MOMENT", x.of(0, 7), 1);
        Due.due("the other didn't", x.of(1, 7), 100);
        x.pass(1);
        Due.due("a MOMENT later", x.of(0, 7), 3);
        x.by(0);
        Due.due("its own", x.of(0, 7), 3);
        Due.due("not the other's", x.of(1, 7), 2);
        x.ask();
        Due.due("not the old man's", x.of(1, 7), 2);
        x.dinner();
        Due.due("tonight's", x.of(0, 7), 0);
        x.by(1);
        Due.due("tonight it didn't speak", x.of(0, 7), 99);
    }

    @Says(promise = 16, words = "guests (how many are THERE), has (1: it is one of HOLD now; 0) in counts, lag")
    static void guestsAndHas() {
        LastWordAt x = Edge.table(2);
        Due.read(x, "lag guests;");
        Due.read(x, "lag has;");
        x.by(0);
        Due.due("two", x.of(0, 7), 2);
        x.send(1);
        Due.due("one", x.of(0, 7), 1);
        x.send(0);
        Due.due("nobody", x.of(0, 7), 0);
        x.dinner();
        x.by(1);
        x.say(0, 0);
        Due.due("not ahead of MOMENT", x.of(0, 7), 0);
        x.pass(1);
        Due.due("it HOLDS now", x.of(0, 7), 2);
        Due.due("the other doesn't", x.of(1, 7), 1);
        x.send(0);
        Due.due("gone, it HOLDS all the same", x.of(0, 7), 2);
        x.ask();
        x.pass(1);
        Due.due("the old man does", x.of(0, 7), 2);
    }

    @Says(promise = 12, words = "said (how many are in THE LOG), heirs (how many would HOLD) in dies.")
    static void saidAndHeirs() {
        LastWordAt x = Edge.table(8);
        Edge.rule(x, "dies said*10+heirs;");
        x.dinner();
        Due.due("none", x.book(0, 2), 0);
        x.ask();
        x.dinner();
        Due.due("he is of THE LOG, no heir", x.book(1, 2), 10);
        for (int g = 0; g < 8; g++) {
            x.say(g, 0);
        }
        x.dinner();
        Due.due("eight", x.book(2, 2), 88);
        x.say(0, 0);
        x.pass(1);
        x.say(1, 0);
        x.dinner();
        Due.due("one of two", x.book(3, 2), 21);
        for (int i = 0; i < 40; i++) {
            x.ask();
        }
        Edge.rule(x, "dies said;");
        x.dinner();
        Due.due("forty", x.book(4, 2), 40);
    }

    // ---- what the laws rule ----

    @Says(promise = 8, words = "counts without: so always.")
    static void countsWithout() {
        LastWordAt x = Edge.table(1);
        for (int kind = 0; kind < 3; kind++) {
            Due.due("no TEXT, KIND " + kind, x.say(0, kind), 0);
        }
        Edge.rule(x, "lag 2;");
        for (int kind = 0; kind < 4; kind++) {
            Due.due("a TEXT without, KIND " + kind, x.say(0, kind), 2);
        }
    }

    @Says(promise = 8, words = "lag: 0 at least, 99 at most; without: 0, but 3 for one that HEARS less than 3.")
    static void theLagOfWords() {
        lag("-1", 0);
        lag("0", 0);
        lag("1", 1);
        lag("98", 98);
        lag("99", 99);
        lag("100", 99);
        lag("9999*9999", 99);
        lag("-9999*9999", 0);
        LastWordAt x = new LastWordAt();
        int[] hears = {0, 1, 2, 3, 4, 9};
        for (int one : hears) {
            x.guest(5, one, -1);
        }
        int[] want = {3, 3, 3, 0, 0, 0};
        for (int g = 0; g < 6; g++) {
            Due.due("HEARS " + hears[g], x.of(g, 7), want[g]);
        }
        Edge.rule(x, "counts 1<2;dies 5;");
        for (int g = 0; g < 6; g++) {
            Due.due("HEARS " + hears[g] + ", a TEXT without", x.of(g, 7), want[g]);
        }
        Edge.rule(x, "lag 0;");
        Due.due("HEARS 0, by a TEXT with", x.of(0, 7), 0);
        x.pass(60);
        x.pass(39);
        Edge.rule(x, "lag 99;");
        Due.due("MOMENT 99 and 99", x.say(0, 0), 198);
        Due.due("log", x.log(0, 3), 198);
    }

    @Says(promise = 12, words = "dies: 0 at least, 100 at most; without: 10.")
    static void theDyingOfDinners() {
        dies("-1", 0);
        dies("0", 0);
        dies("1", 1);
        dies("99", 99);
        dies("100", 100);
        dies("101", 100);
        dies("9999*9999", 100);
        dies("-9999*9999", 0);
        LastWordAt x = new LastWordAt();
        x.dinner();
        Due.due("no TEXT", x.book(0, 2), 10);
        Edge.rule(x, "lag 5;counts 1>2;");
        x.dinner();
        Due.due("a TEXT without", x.book(1, 2), 10);
    }

    @Says(promise = 8, words = "if counts is so (as all is ahead of it), it FALLS in MOMENT and lag, else never")
    static void asAllIsAheadOfIt() {
        LastWordAt x = Edge.table(2);
        Due.read(x, "counts words=0;");
        Due.read(x, "counts wine=0;lag wine;");
        Due.read(x, "counts guests=2;lag guests;");
        x.by(0);
        Due.due("its first", x.say(0, 0), 0);
        Due.due("its second", x.say(0, 0), -1);
        x.by(1);
        Due.due("the first toast", x.say(1, 2), 0);
        Due.due("the second toast", x.say(1, 2), -1);
        x.by(2);
        Due.due("a good night of two", x.say(1, 3), 2);
        Due.due("one is left", x.say(0, 3), -1);
    }

    // ---- 13: played ----

    @Says(promise = 13, words = "PLAYED by a TEXT: NONE: all is done; else the number of the CLAUSE that can't be.")
    static void allIsDone() {
        LastWordAt x = new LastWordAt();
        Due.read(x, "");
        Due.read(x, "lag 1;dies 1;counts 1>2;");
        Due.read(x, "guest 1 hears 9;say 0;oh 0;toast 0;ask;pass 1;bye 0;dinner;send 0;");
        Due.due("an empty one", x.played(0), -1);
        Due.due("just laws", x.played(1), -1);
        Due.due("they don't rule", x.about(6), -1);
        Due.due("nothing is done", x.about(7), 0);
        Due.due("all", x.played(2), -1);
        Due.due("NIGHT", x.about(1), 1);
        Due.due("STEPS", x.about(7), 8);
        Due.due("gone", x.of(0, 3), 0);
        Due.due("its second CLAUSE can't be", x.played(2), 1);
    }

    @Says(promise = 13, words = "-2 for others.")
    static void othersAreNotPlayed() {
        LastWordAt x = Edge.table(1);
        Due.due("played(0) without TEXTS", x.played(0), -2);
        Due.read(x, "ask;");
        Edge.untouched("others", x, () -> {
            Due.due("played(1)", x.played(1), -2);
            Due.due("played(4)", x.played(4), -2);
            Due.due("played(NONE)", x.played(-1), -2);
            Due.due("played(-2)", x.played(-2), -2);
            Due.due("the least", x.played(Edge.MIN), -2);
            Due.due("the greatest", x.played(Edge.MAX), -2);
        });
        Due.due("played(0)", x.played(0), -1);
    }

    private static LastWordAt ends(String text, int clause, int steps, int log) {
        LastWordAt x = Due.sound(text);
        Due.due("played " + text, x.played(0), clause);
        Due.due("STEPS of " + text, x.about(7), steps);
        Due.due("THE LOG of " + text, x.log(-1, 0), log);
        return x;
    }

    @Says(promise = 13, words = "one that can't be ends it (of so many MOMENTS those that can PASS do)")
    static void oneThatCannotBeEndsIt() {
        ends("say 0;ask;", 0, 0, 0);
        ends("ask;oh 0;ask;", 1, 1, 1);
        ends("ask;toast 7;ask;", 1, 1, 1);
        ends("ask;bye 1;ask;", 1, 1, 1);
        ends("ask;send 0;ask;", 1, 1, 1);
        ends("guest 1 hears 9;bye 0;say 0;ask;", 2, 1, 1);
        ends("guest 1 hears 9;send 0;send 0;ask;", 2, 1, 0);
        LastWordAt x = ends("guest 1 hears 9;".repeat(9) + "ask;", 8, 0, 0);
        Due.due("eight GUESTS", x.about(0), 8);
        x = ends("pass 60;pass 60;ask;", 1, 30, 0);
        Due.due("MOMENT", x.about(2), 99);
        Due.due("none can PASS", x.played(0), 0);
        x = ends("pass 60;pass 39;ask;", -1, 30, 1);
        Due.due("MOMENT", x.about(2), 99);
        x = Due.sound("ask;".repeat(24));
        x.played(0);
        Due.due("THE LOG gets full", x.played(0), 16);
        Due.due("forty", x.log(-1, 0), 40);
        Due.due("it is full", x.played(0), 0);
    }

    @Says(promise = 13, words = "its number among all CLAUSES (from 0); what was done stays.")
    static void lawsAreCounted() {
        ends("lag 1;dies 1;say 0;", 2, 0, 0);
        ends("lag 1;ask;dies 1;ask;counts 1<2;say 0;ask;", 5, 2, 2);
        ends("ask;".repeat(23) + "say 0;", 23, 23, 23);
        LastWordAt x = new LastWordAt();
        Edge.toNight(x, 998);
        int number = Due.read(x, "lag 1;dinner;ask;dinner;ask;");
        Due.due("beyond NIGHT 999", x.played(number), 3);
        Due.due("NIGHT", x.about(1), 999);
        Due.due("he asked", x.log(-1, 0), 1);
    }

    @Says(promise = 13, words = "PLAYED by a TEXT: its CLAUSES but laws, in their order, as by hand")
    static void asByHand() {
        LastWordAt x = Due.sound("lag 50;guest 4 hears 5;say 0;pass 3;toast 0;");
        Due.read(x, "lag 7;");
        x.by(1);
        Due.due("played", x.played(0), -1);
        Due.due("THE TEXT rules, not the one that is PLAYED", x.log(0, 3), 7);
        Due.due("its toast", x.log(1, 3), 10);
        Due.due("each MOMENT is a STEP", x.about(7), 5);
        x.undo();
        x.undo();
        Due.due("MOMENT", x.about(2), 2);
    }
}
