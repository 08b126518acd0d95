/** Promises 3 to 7 and 13: the tape, TEXTS, their FAULTS, laws, and TEXTS that are PLAYED. */
public final class TextTest {
    public static void main(String[] args) {
        theTape();
        theTexts();
        tokens();
        misplaced();
        wrongNumbers();
        nested();
        laws();
        cases();
        sums();
        asks();
        namesOfSpeaker();
        namesOfDinner();
        bounds();
        played();
        playedToItsEnd();
        Due.finish();
    }

    private static void theTape() {
        LastWordAt x = new LastWordAt();
        for (int i = 1; i <= 15; i++) {
            Due.due("feed " + i, x.feed(0, 0, 0, 0, 0), 20 * i);
        }
        Due.due("feed beyond", x.feed(1, 1, 1, 1, 1), -1);
        Due.due("about(9)", x.about(9), 300);
        Due.due("end(301)", x.end(301), -1);
        Due.due("end(-1)", x.end(-1), -1);
        Due.due("end(281)", x.end(281), 281);
        Due.due("feed beyond", x.feed(1, 1, 1, 1, 1), -1);
        Due.due("end(282)", x.end(282), -1);
        Due.due("end(280)", x.end(280), 280);
        Due.due("feed", x.feed(1, 1, 1, 1, 1), 300);
        Due.due("end(0)", x.end(0), 0);
        Due.due("end(1)", x.end(1), -1);
        // "ask;" byte by byte, the highest first.
        x.feed(0x61736b3b, 0x0a202061, 0x736b203b, 0x20202020, 0x20202020);
        Due.due("text", x.text(), 0);
        Due.due("played", x.played(0), -1);
        Due.due("asked twice", x.log(-1, 0), 2);
        Due.due("the tape is empty", x.about(9), 0);
    }

    private static void theTexts() {
        LastWordAt x = new LastWordAt();
        Due.due("fault(0) ahead", x.fault(0), -1);
        Due.due("fault(1) ahead", x.fault(1), -1);
        Due.due("by(0)", x.by(0), false);
        Due.due("by(-1)", x.by(-1), true);
        Due.due("by(-2)", x.by(-2), false);
        Due.due("an empty one", x.text(), 0);
        Due.due("fault(0)", x.fault(0), 0);
        Due.due("fault(1)", x.fault(1), -1);
        Due.due("fault(2)", x.fault(2), -1);
        Due.due("fault(-1)", x.fault(-1), -1);
        Due.due("played", x.played(0), -1);
        Due.due("played none", x.played(-1), -2);
        Due.due("played(1)", x.played(1), -2);
        Due.due("a second", Due.read(x, "lag 1;"), 1);
        Due.due("a fault", Due.read(x, "lag x;"), -1);
        Due.due("texts", x.about(5), 2);
        Due.due("a third", Due.read(x, "lag 2;"), 2);
        Due.due("a fourth", Due.read(x, "lag 3;"), 3);
        Due.tape(x, "lag x");
        Due.due("a fifth", x.text(), -1);
        Due.due("the tape stays", x.about(9), 5);
        Due.due("it wasn't read", x.fault(0), 0);
        Due.due("by(3)", x.by(3), true);
        Due.due("the text", x.about(6), 3);
        Due.due("by(4)", x.by(4), false);
        Due.due("the text", x.about(6), 3);
        x.guest(0, 5, -1);
        Due.due("it rules", x.of(0, 7), 3);
        Due.due("by(1)", x.by(1), true);
        Due.due("it rules", x.of(0, 7), 1);
        Due.due("by(-1)", x.by(-1), true);
        Due.due("none", x.about(6), -1);
        Due.due("none rules", x.of(0, 7), 0);
    }

    private static void tokens() {
        Due.sound("");
        Due.sound(" \n ");
        Due.sound("guest5hears9;say0;");
        Due.sound("counts 1<=2and 3>=4or 1#2;");
        Due.sound("lag 00000000000000009999;");
        Due.sound("lag--1;");
        Due.sound("lag 1--1;");
        Due.sound("lag(1)*(2);");
        Due.faulty("ask\t;", 1, 3);
        Due.faulty("ask" + (char) 233 + ";", 1, 3);
        Due.faulty("ask" + (char) 0 + ";", 1, 3);
        Due.faulty("!", 1, 0);
        Due.faulty("Ask;", 1, 0);
        Due.faulty("asks;", 1, 0);
        Due.faulty("as k;", 1, 0);
        Due.faulty("counts 1< =2;", 1, 10);
        Due.faulty("counts 1=<2;", 1, 9);
        Due.faulty("counts 1==2;", 1, 9);
        Due.faulty("counts 1<>2;", 1, 9);
        Due.faulty("counts a1<2;", 1, 7);
    }

    private static void misplaced() {
        Due.faulty(";", 1, 0);
        Due.faulty("1;", 1, 0);
        Due.faulty("ask;;", 1, 4);
        Due.faulty("ask  ", 1, 5);
        Due.faulty("ask ask;", 1, 4);
        Due.faulty("say", 1, 3);
        Due.faulty("say ;", 1, 4);
        Due.faulty("say x;", 1, 4);
        Due.faulty("say -1;", 1, 4);
        Due.faulty("dinner 1;", 1, 7);
        Due.faulty("guest 1 2;", 1, 8);
        Due.faulty("guest 1 hears;", 1, 13);
        Due.faulty("guest 1 hears 2 3;", 1, 16);
        Due.faulty("counts;", 1, 6);
        Due.faulty("counts 1;", 1, 8);
        Due.faulty("counts 1<2<3;", 1, 10);
        Due.faulty("counts (1<2);", 1, 9);
        Due.faulty("counts 1<not 2;", 1, 9);
        Due.faulty("counts 1<2 or;", 1, 13);
        Due.faulty("counts 1<2 and or 1<2;", 1, 15);
        Due.faulty("lag 1<2;", 1, 5);
        Due.faulty("lag 1 or 2;", 1, 6);
        Due.faulty("lag not 1;", 1, 4);
        Due.faulty("lag 1 10000;", 1, 6);
        Due.faulty("lag (1;", 1, 6);
        Due.faulty("lag 1);", 1, 5);
        Due.faulty("lag ();", 1, 5);
        Due.faulty("lag 1+;", 1, 6);
        Due.faulty("lag +1;", 1, 4);
        Due.faulty("lag 1 2;", 1, 6);
        Due.faulty("lag say;", 1, 4);
        Due.faulty("lag end;", 1, 4);
        Due.faulty("lag 1", 1, 5);
        Due.faulty("lag", 1, 3);
        Due.faulty("lag 1; ? lag 1;", 1, 7);
        Due.faulty("lag choose 1;", 1, 12);
        Due.faulty("lag choose 1 case 1:2 end;", 1, 22);
        Due.faulty("lag choose 1 case x:2 else 3 end;", 1, 18);
        Due.faulty("lag choose 1 case -1:2 else 3 end;", 1, 18);
        Due.faulty("lag choose 1 case 1 to 2 to 3:2 else 3 end;", 1, 25);
        Due.faulty("lag choose 1 case 1 to :2 else 3 end;", 1, 23);
        Due.faulty("lag choose 1 case 1:2 else 3 case 2:3 end;", 1, 29);
        Due.faulty("lag choose 1 case 1:2 else 3;", 1, 28);
    }

    private static void wrongNumbers() {
        Due.faulty("guest 10 hears 1;", 2, 6);
        Due.faulty("guest 1 hears 10;", 2, 14);
        for (String deed : new String[] {"say", "oh", "toast", "bye", "send"}) {
            Due.sound(deed + " 7;");
            Due.faulty(deed + " 8;", 2, deed.length() + 1);
            Due.faulty(deed + " 99999999999999999999;", 2, deed.length() + 1);
        }
        Due.sound("pass 1;pass 60;");
        Due.faulty("pass 0;", 2, 5);
        Due.faulty("pass 61;", 2, 5);
        Due.sound("lag 9999;");
        Due.faulty("lag 10000;", 2, 4);
        Due.faulty("lag 4294967297;", 2, 4);
        Due.sound("lag choose 1 case 0 to 9999:1 else 0 end;");
        Due.faulty("lag choose 1 case 10000:1 else 0 end;", 2, 18);
        Due.faulty("lag choose 1 case 5 to 10000:1 else 0 end;", 2, 23);
        Due.faulty("say 8 9;", 2, 4);
    }

    private static void nested() {
        Due.sound("lag ((((((((1))))))));");
        Due.faulty("lag (((((((((1)))))))));", 3, 12);
        Due.sound("lag --------1;");
        Due.faulty("lag ---------1;", 3, 12);
        Due.faulty("lag (((((((((", 3, 12);
        Due.sound("counts not not not not not not not not 1<2;");
        Due.faulty("counts not not not not not not not not not 1<2;", 3, 39);
        Due.faulty("counts not not not not not not not not (1)<2;", 3, 39);
        Due.faulty("counts not not not not not not not not 1<-2;", 3, 41);
        Due.sound("counts not not not not not not not (1)<-2 and not not not not not not not not 1<2;");
        Due.sound("lag 1-1-1-1-1-1-1-1-1-1-1-1;");
        Due.sound("lag (1)+(1)+(1)+(1)+(1)+(1)+(1)+(1)+(1)+(1);");
        String choose = "choose 1 case 1:1 else ";
        Due.sound("lag " + choose.repeat(8) + "1" + " end".repeat(8) + ";");
        Due.faulty("lag " + choose.repeat(9) + "1" + " end".repeat(9) + ";", 3, 4 + 8 * choose.length());
        Due.faulty("lag choose ((((((((1", 3, 18);
        Due.faulty("lag choose 1 case 1: ((((((((1", 3, 28);
        Due.faulty("lag ((((((((x", 1, 12);
        Due.faulty("lag ((((((((not", 1, 12);
    }

    private static void laws() {
        Due.faulty("lag 1;lag 1;", 4, 6);
        Due.faulty("dies 1;ask;dies", 4, 11);
        Due.faulty("counts 1<2;counts 1<2;", 4, 11);
        Due.sound("counts 1<2;lag 1;dies 1;");
        Due.faulty("lag said;", 5, 4);
        Due.faulty("lag 1+heirs;", 5, 6);
        Due.faulty("counts heirs<1;", 5, 7);
        Due.faulty("counts 1<said;", 5, 9);
        for (String name : new String[] {"rank", "hears", "kind", "words", "since", "guests", "has"}) {
            Due.sound("lag " + name + ";counts " + name + ">1;");
            Due.faulty("dies " + name + ";", 5, 5);
        }
        for (String name : new String[] {"night", "moment", "wine"}) {
            Due.sound("lag " + name + ";counts " + name + ">1;dies " + name + ";");
        }
        Due.sound("dies said+heirs;");
        Due.faulty("dies said said;", 1, 10);
        Due.sound("ask;".repeat(24));
        Due.faulty("ask;".repeat(25), 6, 96);
        Due.faulty("ask;".repeat(24) + "night;", 1, 96);
        Due.faulty("ask;".repeat(24) + "?", 1, 96);
        Due.faulty("lag 1;" + "ask;".repeat(23) + "lag 1;", 4, 98);
        Due.faulty("lag 1;" + "ask;".repeat(23) + "dies 1;", 6, 98);
    }

    private static void cases() {
        String six = "lag choose 1" + " case 1:1".repeat(6);
        Due.sound(six + " else 1 end;");
        Due.faulty(six + " case 1:1 else 1 end;", 7, 67);
        Due.faulty(six + " case", 7, 67);
        Due.sound("lag choose 1 case 5 to 5:1 else 1 end;");
        Due.faulty("lag choose 1 case 5 to 4:1 else 1 end;", 7, 23);
        Due.sound("lag choose choose 1" + " case 1:1".repeat(6) + " else 1 end case 2:2 else 3 end;");
        LastWordAt x = Due.sound("lag choose rank case 1:11 case 2 to 4:12 case 4 to 6:13 case 0:14 else 15 end;");
        x.by(0);
        int[] want = {14, 11, 12, 12, 12, 13, 13, 15};
        for (int rank = 0; rank < 8; rank++) {
            x.guest(rank, 5, -1);
            Due.due("choose by rank " + rank, x.of(rank, 7), want[rank]);
        }
        lag("choose 1+1 case 2: 3 case 2: 4 else 5 end * 2", 6);
        lag("choose -1 case 0 to 9999: 3 else 5 end", 5);
        lag("choose 3 case 1: 1 case 3: choose 4 case 4: 44 else 9 end + 1 else 5 end + 2", 47);
        lag("choose 3 case 1: 1 else choose 4 case 5: 44 else 9 end end", 9);
        lag("2 + choose 3 case 3: 7 else 0 end - choose 3 case 4: 7 else 1 end", 8);
    }

    /** What a SUM comes to, by the lag of a new GUEST. */
    private static void lag(String sum, int want) {
        LastWordAt x = Due.sound("lag " + sum + ";");
        x.guest(3, 5, -1);
        x.by(0);
        Due.due("lag " + sum, x.of(0, 7), want);
    }

    private static void sums() {
        lag("1+2*3", 7);
        lag("(1+2)*3", 9);
        lag("20-5-3", 12);
        lag("90/7/2", 6);
        lag("7/2*2", 6);
        lag("20+7/-2", 17);
        lag("20+-7/2", 17);
        lag("20-7/2", 17);
        lag("5/0+4", 4);
        lag("5/(1-1)+4", 4);
        lag("0/5", 0);
        lag("-(-5)", 5);
        lag("2--3", 5);
        lag("2*-3+10", 4);
        lag("-5", 0);
        lag("98", 98);
        lag("99", 99);
        lag("100", 99);
        // 1000000 is the most, at each step.
        lag("1000*1000/5000/4", 50);
        lag("(1000*1000+1)/5000/4", 50);
        lag("1000*2000-9999*100", 99);
        lag("1000*2000-9999*100-80", 20);
        lag("1000*2000-9999*100-100", 0);
        lag("9999*9999*9999*9999/5000/4", 50);
        lag("50+-9999*9999*9999/5000/10", 30);
        lag("-9999*9999-9999+9999*100+200", 99);
        lag("-9999*9999-9999+9999*100+120", 20);
    }

    private static void counts(String either, boolean want) {
        LastWordAt x = Due.sound("counts " + either + ";");
        x.guest(3, 5, -1);
        x.by(0);
        Due.due("counts " + either, x.of(0, 7), want ? 0 : -1);
    }

    private static void asks() {
        counts("1<2", true);
        counts("2<2", false);
        counts("2<=2", true);
        counts("3<=2", false);
        counts("3>2", true);
        counts("2>2", false);
        counts("2>=2", true);
        counts("1>=2", false);
        counts("2=2", true);
        counts("1=2", false);
        counts("1#2", true);
        counts("2#2", false);
        counts("not 1<2", false);
        counts("not not 1<2", true);
        counts("not 1<2 and 1>2", false);
        counts("not 1<2 or 1<2", true);
        counts("1<2 or 1<2 and 1>2", true);
        counts("1>2 and 1<2 or 1<2", true);
        counts("1>2 and 1<2 or 1>2", false);
        counts("1>2 or 1>2 or 1<2", true);
        counts("1<2 and 1<2 and 1>2", false);
        counts("1+1<1*3", true);
    }

    private static void namesOfSpeaker() {
        LastWordAt x = new LastWordAt();
        x.guest(4, 1, -1);
        x.guest(6, 8, -1);
        Due.read(x, "counts kind#1;lag rank*10+hears;");
        Due.read(x, "lag words*10+since;");
        Due.read(x, "lag guests*10+has;");
        Due.read(x, "lag night*50+moment*10+wine;");
        x.by(0);
        Due.due("lag rank, hears", x.of(0, 7), 41);
        Due.due("an oh doesn't count", x.say(0, 1), -1);
        Due.due("log", x.log(0, 3), -1);
        Due.due("holds", x.holds(true), 0);
        x.by(1);
        Due.due("since, not spoken", x.of(1, 7), 99);
        Due.due("words, since", x.of(0, 7), 10);
        x.pass(3);
        Due.due("words, since", x.of(0, 7), 16);
        Due.due("as all is ahead", x.say(0, 0), 16);
        Due.due("words, since then", x.of(0, 7), 23);
        x.by(2);
        Due.due("guests, has", x.of(0, 7), 23);
        x.send(1);
        Due.due("guests, has", x.of(0, 7), 13);
        Due.due("guests, has of one who is gone", x.of(1, 7), 13);
        x.pass(13);
        Due.due("not yet", x.of(0, 7), 26);
        x.pass(1);
        Due.due("it holds now", x.of(0, 7), 28);
        Due.due("the other doesn't", x.of(1, 7), 27);
        x.by(3);
        x.dinner();
        x.say(0, 2);
        x.pass(2);
        Due.due("night, moment, wine", x.of(0, 7), 73);
    }

    private static void namesOfDinner() {
        LastWordAt x = new LastWordAt();
        x.guest(4, 5, -1);
        x.guest(6, 8, -1);
        Due.read(x, "dies said*10+heirs;");
        Due.read(x, "dies night*50+moment*10+wine;");
        x.by(0);
        x.say(0, 0);
        x.say(1, 2);
        x.ask();
        x.dinner();
        Due.due("said, heirs", x.book(0, 2), 32);
        x.by(1);
        x.pass(2);
        x.say(1, 2);
        x.dinner();
        Due.due("night, moment, wine", x.book(1, 2), 71);
    }

    private static void bounds() {
        LastWordAt x = new LastWordAt();
        x.guest(4, 2, -1);
        x.guest(4, 3, -1);
        Due.read(x, "dies 101;");
        Due.read(x, "dies -1;counts 1<2;");
        Due.read(x, "lag 100;dies 100;");
        Due.read(x, "lag -1;dies 0;");
        x.by(0);
        Due.due("lag without, hears 2", x.of(0, 7), 3);
        Due.due("lag without, hears 3", x.of(1, 7), 0);
        x.dinner();
        x.by(1);
        Due.due("lag without, hears 2", x.of(0, 7), 3);
        x.dinner();
        x.by(2);
        Due.due("lag 100", x.of(0, 7), 99);
        x.dinner();
        x.by(3);
        Due.due("lag -1", x.of(0, 7), 0);
        x.dinner();
        x.by(-1);
        x.dinner();
        int[] dies = {100, 0, 100, 0, 10};
        for (int i = 0; i < 5; i++) {
            Due.due("dies " + i, x.book(i, 2), dies[i]);
        }
    }

    private static void played() {
        LastWordAt x = new LastWordAt();
        String deeds = "guest 5 hears 9;lag 50;guest 7 hears 2;say 0;oh 1;toast 0;ask;pass 2;send 1;bye 0;dinner;";
        Due.due("text", Due.read(x, deeds), 0);
        Due.due("played", x.played(0), -1);
        Due.due("its law doesn't rule", x.about(6), -1);
        Due.due("guests", x.about(0), 2);
        Due.due("rank", x.of(1, 0), 7);
        Due.due("hears", x.of(1, 1), 2);
        Due.due("goes", x.of(1, 2), -1);
        Due.due("steps", x.about(7), 9);
        Due.due("night", x.about(1), 1);
        x.undo();
        int[][] log = {{0, 0, 0, 0}, {0, 1, 1, 3}, {0, 0, 2, 0}, {0, 8, 4, 0}, {2, 0, 3, 2}};
        Due.due("log", x.log(-1, 0), 5);
        for (int i = 0; i < 5; i++) {
            for (int what = 0; what < 4; what++) {
                Due.due("log(" + i + ", " + what + ")", x.log(i, what), log[i][what]);
            }
        }
        Due.due("both are gone", x.about(8), 0);
    }

    private static void playedToItsEnd() {
        ends("ask;lag 1;say 0;ask;", 2, 1);
        ends("guest 1 hears 1;send 0;send 0;ask;", 2, 1);
        ends("guest 1 hears 1;bye 0;oh 0;", 2, 1);
        ends("toast 7;", 0, 0);
        ends("bye 7;", 0, 0);
        ends("guest 1 hears 1;".repeat(9), 8, 0);
        LastWordAt x = ends("pass 60;pass 30;ask;pass 10;ask;", 3, 30);
        Due.due("those that can pass do", x.about(2), 99);
        Due.due("log", x.log(-1, 0), 1);
        x = ends("pass 60;pass 39;ask;", -1, 30);
        Due.due("moment", x.about(2), 99);
        x = Due.sound("ask;".repeat(24));
        Due.due("played", x.played(0), -1);
        Due.due("the log gets full", x.played(0), 16);
        Due.due("log", x.log(-1, 0), 40);
    }

    private static LastWordAt ends(String text, int clause, int steps) {
        LastWordAt x = Due.sound(text);
        Due.due("played " + text, x.played(0), clause);
        Due.due("steps of " + text, x.about(7), steps);
        return x;
    }
}
