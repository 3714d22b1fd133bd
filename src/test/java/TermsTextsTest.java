/** "Terms", 2, TEXTS: each sentence at its last value within and its first beyond, each FAULT at its place. */
public final class TermsTextsTest extends Due {
    private static final int LAW = 0;
    private static final int SKY = 1;
    private static final int PLAN = 2;
    private static final int TENETS = 3;
    private static final String[] SHORTEST = {"eats 1;", "day 1 is 1;", "on 1 say 1;", "1 so 2;"};
    private static final String[] WORDS = {
        "eats dies leans when or and not age faith doctrine hunger place tall weather above day",
        "day is", "on loaves say down build curse", "and so"};
    private static final String[] HEADS = {" eats dies leans ", " day ", " on ", " "};

    public static void main(String[] args) {
        emptyAtFirst();
        lawLines();
        comparisons();
        sums();
        parts();
        units();
        skyBounds();
        skyTheLast();
        planDay();
        planNumbers();
        planSaints();
        planPillars();
        planForm();
        tenets();
        sixteenLines();
        letters();
        keywordsOfThatText();
        digits();
        signs();
        blanks();
        wraps();
        towardsZero();
        firstByPlace();
        leastAtOnePlace();
        theEnd();
        partByNought();
        ninthOpen();
        firstLineThatIsSo();
        usualEats();
        usualDies();
        usualLeans();
        heldValues();
        placeAndTall();
        above();
        fullTape();
        finish("terms 2");
    }

    private static PillarSaints desert() {
        return crowd(2, 10, 20, 30);
    }

    private static void good(int k, String s, int lines) {
        fine(desert(), k, s, lines);
    }

    private static void bad(int k, String s, int fault, int place) {
        faulty(desert(), k, s, fault, place);
    }

    private static void emptyAtFirst() {
        by("TEXTS (empty at first)");
        PillarSaints x = desert();
        for (int what = 10; what <= 13; what++) {
            due("look(" + what + ")", x.look(what), 0);
        }
        due("the usual law", x.of(0, 7), 1);
        due("sky(0)", x.sky(0), -1);
        due("follows(65535)", x.follows(65535), 65535);
        due("follows(1)", x.follows(1), 1);
        by("{ .. }: none of it too");
        for (int k = 0; k < 4; k++) {
            PillarSaints y = desert();
            fine(y, k, SHORTEST[k], 1);
            fine(y, k, "", 0);
            due("no line is left", y.look(10 + k), 0);
        }
    }

    private static void lawLines() {
        by("0 THE LAW = {(eats | dies | leans) E [when B] ;}");
        good(LAW, "eats 1;", 1);
        good(LAW, "dies 1;", 1);
        good(LAW, "leans 1;", 1);
        good(LAW, "eats 1 when 1=1;", 1);
        bad(LAW, "when 1;", 1, 0);
        bad(LAW, "1;", 1, 0);
        bad(LAW, ";", 1, 0);
        bad(LAW, "eats ;", 1, 5);
        bad(LAW, "eats 1", 1, 6);
        bad(LAW, "eats 1 1;", 1, 7);
        bad(LAW, "eats 1;;", 1, 7);
        bad(LAW, "eats eats 1;", 1, 5);
        bad(LAW, "eats 1 dies 1;", 1, 7);
        bad(LAW, "eats 1 when ;", 1, 12);
        bad(LAW, "eats 1 when 1=1", 1, 15);
        bad(LAW, "eats 1 when 1=1 when 1=1;", 1, 16);
    }

    private static void comparisons() {
        by("B = A {or A}. A = C {and C}. C = E (< | = | >) E | not C | ( B )");
        String[] fine = {"1<2", "1=2", "1>2", "not 1=2", "not not 1=2", "(1=2)", "((1=2))", "not(1=2)", "(not 1=2)",
            "1=1 or 1=2", "1=1 and 1=2", "1=1 and 1=2 or 1=3 and 1=4", "(1=1 or 1=2)and(1=3 or 1=4)"};
        for (String b : fine) {
            good(LAW, "eats 1 when " + b + ";", 1);
        }
        bad(LAW, "eats 1 when 1;", 1, 13);
        bad(LAW, "eats 1 when 1+;", 1, 14);
        bad(LAW, "eats 1 when 1<;", 1, 14);
        bad(LAW, "eats 1 when <1;", 1, 12);
        bad(LAW, "eats 1 when 1<=2;", 1, 14);
        bad(LAW, "eats 1 when 1<2<3;", 1, 15);
        bad(LAW, "eats 1 when 1<2 or;", 1, 18);
        bad(LAW, "eats 1 when 1<2 and;", 1, 19);
        bad(LAW, "eats 1 when or 1<2;", 1, 12);
        bad(LAW, "eats 1 when 1<2 not 1<2;", 1, 16);
        bad(LAW, "eats 1 when not;", 1, 15);
        bad(LAW, "eats 1 when ();", 1, 13);
        bad(LAW, "eats 1 when (1<2;", 1, 16);
        bad(LAW, "eats 1 when 1<2);", 1, 15);
        bad(LAW, "eats 1 when (1)<2;", 1, 14);
        bad(LAW, "eats 1 when (1<2)<3;", 1, 17);
    }

    private static void sums() {
        by("E = T {(+ | -) T}");
        good(LAW, "eats 1+1-1;", 1);
        bad(LAW, "eats +1;", 1, 5);
        bad(LAW, "eats -1;", 1, 5);
        bad(LAW, "eats 1+;", 1, 7);
        bad(LAW, "eats 1-;", 1, 7);
        bad(LAW, "eats 1+-1;", 1, 7);
        bad(LAW, "eats 1-(1);", 1, 7);
    }

    private static void parts() {
        by("T = U {* U | / NUMBER}");
        good(LAW, "eats age*age/2*3/4;", 1);
        bad(LAW, "eats *1;", 1, 5);
        bad(LAW, "eats 1*;", 1, 7);
        bad(LAW, "eats 1/;", 1, 7);
        bad(LAW, "eats 1/age;", 1, 7);
        bad(LAW, "eats 1*/2;", 1, 7);
        bad(LAW, "eats 1//2;", 1, 7);
    }

    private static void units() {
        by("U = NUMBER | age | faith | doctrine | hunger | place | tall | weather | above | day");
        String[] names = {"age", "faith", "doctrine", "hunger", "place", "tall", "weather", "above", "day"};
        for (String name : names) {
            good(LAW, "eats " + name + ";", 1);
            good(LAW, "eats 1*" + name + " when " + name + "<1;", 1);
            bad(LAW, name + " 1;", 1, 0);
        }
        for (String word : new String[] {"eats", "dies", "leans", "when", "or", "and", "not"}) {
            bad(LAW, "eats " + word + ";", 1, 5);
        }
    }

    private static void skyBounds() {
        by("1 SKY = {day DAY is N ;} (DAY 0 .. 999, N 0 .. 9)");
        good(SKY, "day 0 is 0;", 1);
        good(SKY, "day 999 is 9;", 1);
        bad(SKY, "day 1000 is 9;", 2, 4);
        bad(SKY, "day 9999 is 9;", 2, 4);
        bad(SKY, "day 999 is 10;", 2, 11);
        bad(SKY, "day 10000 is 9;", 1, 4);
        bad(SKY, "day is 9;", 1, 4);
        bad(SKY, "day 1 9;", 1, 6);
        bad(SKY, "day 1 is;", 1, 8);
        bad(SKY, "day 1 is 9", 1, 10);
        bad(SKY, "day -1 is 9;", 1, 4);
        bad(SKY, "is 9;", 1, 0);
    }

    private static void skyTheLast() {
        by("of several for one DAY the last");
        PillarSaints x = desert();
        fine(x, SKY, "day 3 is 1;day 4 is 2;day 3 is 5;day 3 is 0;day 5 is 7;", 5);
        due("sky(3)", x.sky(3), 0);
        due("sky(4)", x.sky(4), 2);
        due("sky(5)", x.sky(5), 7);
        due("sky(2)", x.sky(2), -1);
    }

    private static void planDay() {
        by("2 A PLAN = {on DAY ..} (DAY 0 .. 999");
        String[] deeds = {"loaves 1", "say 1", "down 1", "build 1 1", "curse 1"};
        for (String deed : deeds) {
            good(PLAN, "on 0 " + deed + ";", 1);
            good(PLAN, "on 999 " + deed + ";", 1);
            bad(PLAN, "on 1000 " + deed + ";", 2, 3);
            bad(PLAN, "on " + deed + ";", 1, 3);
            bad(PLAN, "on 1 " + deed, 1, 5 + deed.length());
        }
    }

    private static void planNumbers() {
        by("loaves 0 .. 999, say 0 .. 99, build 1 .. 99");
        good(PLAN, "on 1 loaves 0;on 1 loaves 999;", 2);
        bad(PLAN, "on 1 loaves 1000;", 2, 12);
        good(PLAN, "on 1 say 0;on 1 say 99;", 2);
        bad(PLAN, "on 1 say 100;", 2, 9);
        good(PLAN, "on 1 build 0 1;on 1 build 0 99;", 2);
        bad(PLAN, "on 1 build 0 0;", 2, 13);
        bad(PLAN, "on 1 build 0 100;", 2, 13);
        bad(PLAN, "on 1 loaves -1;", 1, 12);
        bad(PLAN, "on 1 say -1;", 1, 9);
    }

    private static void planSaints() {
        by("FAULT 2 (at the NUMBER): a SAINT that there is not");
        good(PLAN, "on 1 down 0;on 1 down 2;on 1 curse 0;on 1 curse 2;", 4);
        bad(PLAN, "on 1 down 3;", 2, 10);
        bad(PLAN, "on 1 curse 3;", 2, 11);
        PillarSaints nobody = row(5, 5);
        faulty(nobody, PLAN, "on 1 down 0;", 2, 10);
        faulty(nobody, PLAN, "on 1 curse 0;", 2, 11);
        PillarSaints full = crowd(2, new int[14]);
        fine(full, PLAN, "on 1 down 13;on 1 curse 13;", 2);
        faulty(full, PLAN, "on 1 down 14;", 2, 10);
        faulty(full, PLAN, "on 1 curse 14;", 2, 11);
        PillarSaints dead = calm("dies 1000;", 1, 5);
        dead.days(1);
        fine(dead, PLAN, "on 1 down 0;on 1 curse 0;", 2);
    }

    private static void planPillars() {
        by("FAULT 2 (at the NUMBER): a PILLAR that there is not");
        good(PLAN, "on 1 build 0 5;on 1 build 1 5;", 2);
        bad(PLAN, "on 1 build 2 5;", 2, 11);
        faulty(new PillarSaints(), PLAN, "on 1 build 0 5;", 2, 11);
        PillarSaints full = crowd(10);
        fine(full, PLAN, "on 1 build 9 5;", 1);
        faulty(full, PLAN, "on 1 build 10 5;", 2, 11);
    }

    private static void planForm() {
        by("2 A PLAN = {on DAY (loaves N | say N | down SAINT | build PILLAR N | curse SAINT) ;}");
        bad(PLAN, "on 1;", 1, 4);
        bad(PLAN, "on 1 on 1;", 1, 5);
        bad(PLAN, "say 1;", 1, 0);
        bad(PLAN, "on 1 loaves;", 1, 11);
        bad(PLAN, "on 1 build 1;", 1, 12);
        bad(PLAN, "on 1 down 1 1;", 1, 12);
        bad(PLAN, "on 1 say 1 2;", 1, 11);
        bad(PLAN, "on 1 curse;", 1, 10);
    }

    private static void tenets() {
        by("3 TENETS = {TENET {and TENET} so TENET ;} (0 .. 15.)");
        good(TENETS, "0 so 15;15 so 0;0 and 15 so 15;0 and 0 so 0;", 4);
        bad(TENETS, "16 so 1;", 2, 0);
        bad(TENETS, "1 and 16 so 1;", 2, 6);
        bad(TENETS, "1 and 2 and 16 so 1;", 2, 12);
        bad(TENETS, "1 so 16;", 2, 5);
        bad(TENETS, "so 1;", 1, 0);
        bad(TENETS, "1;", 1, 1);
        bad(TENETS, "1 2 so 3;", 1, 2);
        bad(TENETS, "1 and so 3;", 1, 6);
        bad(TENETS, "1 so;", 1, 4);
        bad(TENETS, "1 so 2 so 3;", 1, 7);
        bad(TENETS, "1 so 2 and 3;", 1, 7);
        bad(TENETS, "1 so 2", 1, 6);
    }

    private static void sixteenLines() {
        by("16 lines of each at most; FAULT 3 (at its KEYWORD, of TENETS at its first NUMBER) the 17th line of a text");
        for (int k = 0; k < 4; k++) {
            String line = SHORTEST[k];
            int full = 16 * line.length();
            good(k, line.repeat(15), 15);
            good(k, line.repeat(16), 16);
            good(k, line.repeat(16) + " \n", 16);
            bad(k, line.repeat(17), 3, full);
            bad(k, line.repeat(16) + " \n" + line, 3, full + 2);
            bad(k, line.repeat(16) + line.substring(0, line.indexOf(' ')), 3, full);
            PillarSaints x = desert();
            fine(x, k, line.repeat(16), 16);
            faulty(x, k, line.repeat(17), 3, full);
            due("as it was", x.look(10 + k), 16);
        }
        bad(LAW, SHORTEST[LAW].repeat(16) + "dies", 3, 112);
        bad(LAW, SHORTEST[LAW].repeat(16) + "leans", 3, 112);
    }

    private static void letters() {
        by("TOKENS: letters as many as stand together are KEYWORDS or none");
        bad(LAW, "eatsx 1;", 1, 0);
        bad(LAW, "xeats 1;", 1, 0);
        bad(LAW, "eat 1;", 1, 0);
        bad(LAW, "eatsage;", 1, 0);
        bad(LAW, "eats agefaith;", 1, 5);
        bad(LAW, "eats 1 whenage=1;", 1, 7);
        bad(LAW, "Eats 1;", 1, 0);
        bad(LAW, "eatS 1;", 1, 0);
        bad(LAW, "eats 1a;", 1, 6);
        good(LAW, "eats1;", 1);
        good(LAW, "eats 1when 1=1and 2=2or age=3;", 1);
        good(LAW, "eats 1 when not(age=1);", 1);
        // the ends of the alphabet belong to a word, their neighbours do not
        bad(LAW, "eatsa 1;", 1, 0);
        bad(LAW, "eatsz 1;", 1, 0);
        bad(LAW, "eatsA 1;", 1, 0);
        bad(LAW, "eatsZ 1;", 1, 0);
        bad(LAW, "eats` 1;", 1, 4);
        bad(LAW, "eats{ 1;", 1, 4);
        bad(LAW, "eats@ 1;", 1, 4);
        bad(LAW, "eats[ 1;", 1, 4);
    }

    private static void keywordsOfThatText() {
        by("KEYWORDS (those told here for that text)");
        for (int k = 0; k < 4; k++) {
            String place = k == LAW ? "eats 1 " : k == SKY ? "day 1 " : k == PLAN ? "on 1 " : "1 ";
            String own = " " + WORDS[k] + " ";
            for (String words : WORDS) {
                for (String word : words.split(" ")) {
                    if (!HEADS[k].contains(" " + word + " ")) {
                        bad(k, word, 1, 0);
                    }
                    if (!own.contains(" " + word + " ")) {
                        bad(k, place + word, 1, place.length());
                    }
                }
            }
        }
    }

    private static void digits() {
        by("digits as many as stand together NUMBERS of 1 to 4 digits or none");
        good(LAW, "eats 0;", 1);
        good(LAW, "eats 9999;", 1);
        good(LAW, "eats 0000;", 1);
        bad(LAW, "eats 10000;", 1, 5);
        bad(LAW, "eats 00000;", 1, 5);
        bad(LAW, "eats 1+00001;", 1, 7);
        good(SKY, "day 0001 is 0009;", 1);
        bad(SKY, "day 00001 is 9;", 1, 4);
        good(TENETS, "0015 so 0015;", 1);
        bad(TENETS, "00015 so 15;", 1, 0);
        PillarSaints x = desert();
        fine(x, LAW, "dies 0987;", 1);
        due("a NUMBER with a nought ahead", x.of(0, 8), 987);
        // the neighbours of 0 and 9
        bad(LAW, "eats 1:;", 1, 6);
        bad(LAW, "eats :;", 1, 5);
        bad(LAW, "eats 4//;", 1, 7);
    }

    /** Every sign between two noughts: which make a sum, which end it, and which are none. */
    private static void signs() {
        by("TOKENS: ; + - * / ( ) < = >");
        for (int sign = 0; sign < 256; sign++) {
            String s = "eats 1" + (char) sign + "1;";
            boolean digit = sign >= '0' && sign <= '9';
            if (digit || "+-*/".indexOf(sign) >= 0) {
                good(LAW, s, 1);
            } else if (sign == ' ' || sign == '\n' || sign == ';') {
                bad(LAW, s, 1, 7);
            } else {
                bad(LAW, s, 1, 6);
            }
            String c = "eats 1 when (1" + (char) sign + "1);";
            if ("<=>".indexOf(sign) >= 0) {
                good(LAW, c, 1);
            } else if (digit || "+-*/".indexOf(sign) >= 0) {
                bad(LAW, c, 1, 16);
            } else if (sign == ' ' || sign == '\n') {
                bad(LAW, c, 1, 15);
            } else {
                bad(LAW, c, 1, 14);
            }
        }
    }

    private static void blanks() {
        by("Blanks (32, 10) between");
        for (int k = 0; k < 4; k++) {
            String line = SHORTEST[k];
            for (int sign = 0; sign < 256; sign++) {
                if (sign == 32 || sign == 10) {
                    good(k, (char) sign + line.replace(' ', (char) sign) + (char) sign, 1);
                } else if (sign < '0' || sign > '9' || k != TENETS) {
                    bad(k, line + (char) sign, 1, line.length());
                }
            }
        }
        good(LAW, " \n \n ", 0);
        good(LAW, "\n eats \n\n 1 \n + 1 ;\n", 1);
        bad(LAW, "ea ts 1;", 1, 0);
        bad(LAW, "eats 1 1;", 1, 7);
    }

    private static int law(String line) {
        PillarSaints x = desert();
        due("text(0) of \"" + line + "\"", told(x, LAW, line), 1);
        return x.of(0, line.startsWith("eats") ? 7 : line.startsWith("dies") ? 8 : 9);
    }

    private static void wraps() {
        by("Ints, which wrap");
        String greatest = "9999*9999*21+4790*9999+8416";
        due("the greatest int", law("dies 7 when " + greatest + ">0;"), 7);
        due("one more wraps", law("dies 7 when " + greatest + "+1<0;"), 7);
        due("one more, held", law("dies " + greatest + "+1;"), 0);
        due("the greatest, held", law("dies " + greatest + ";"), 1000);
        due("the least int", law("leans 0-4790*9999-8417-9999*9999*21;"), -99);
        due("one less wraps", law("leans 0-4790*9999-8417-9999*9999*21-1;"), 99);
        due("a product that fits", law("leans 9999*9999*21;"), 99);
        due("the first product that wraps", law("leans 9999*9999*22;"), -99);
        due("a product that wraps to 0", law("dies 4096*4096*256;"), 0);
        due("a product that wraps to the least", law("leans 4096*4096*128;"), -99);
        due("a product that wraps twice", law("dies 9999*9999*44/9999/9999;"), 1);
        due("a comparison of what wraps", law("dies 7 when 9999*9999*22<9999*9999*21;"), 7);
        due("no difference is taken to compare", law("dies 7 when 9999*9999*21>9999*9999*22;"), 7);
    }

    private static void towardsZero() {
        by("/ goes towards 0");
        int[][] cases = {{-1, 2, 0}, {-2, 2, -1}, {-3, 2, -1}, {-99, 99, -1}, {-98, 99, 0}, {-99, 9999, 0}, {3, 2, 1}, {99, 50, 1}};
        for (int[] c : cases) {
            PillarSaints x = crowd(1, c[0]);
            fine(x, LAW, "leans doctrine/" + c[1] + ";", 1);
            due("leans " + c[0] + " / " + c[1], x.of(0, 9), c[2]);
        }
        due("of what wrapped", law("leans 9999*9999*22/9999/9999;"), -20);
        due("one behind the other", law("leans 99/2/2*4;"), 96);
        due("a part ahead of a difference", law("leans 0-7/2;"), -3);
    }

    private static void firstByPlace() {
        by("FAULTS, the first by its place");
        bad(LAW, "eats 1/0 when 12345;", 2, 7);
        bad(LAW, "eats x/0;", 1, 5);
        bad(LAW, "eats 1 x/0; eats 1/0;", 1, 7);
        bad(LAW, "eats 1 when " + "(".repeat(9) + "1/0", 3, 20);
        bad(LAW, "eats 1 when 1/0=1 and " + "(".repeat(9), 2, 14);
        bad(LAW, "eats 1;".repeat(15) + "eats 1/0;eats 1;", 2, 112);
        bad(LAW, "eats 1;".repeat(16) + "eats 1/0;", 3, 112);
        bad(SKY, "day 1000 is 10", 2, 4);
        bad(SKY, "day 1000;", 2, 4);
        bad(SKY, "day 1 is 10 x", 2, 9);
        bad(SKY, "day x is 10;", 1, 4);
        bad(PLAN, "on 1000 fly 3;", 2, 3);
        bad(PLAN, "on 1 build 2 100;", 2, 11);
        bad(PLAN, "on 1 build 1 100", 2, 13);
        bad(TENETS, "16 and 17 so", 2, 0);
        bad(TENETS, "1 16 so 1;", 1, 2);
        bad(TENETS, "1 so 2;".repeat(15) + "1 so 16;1 so 2;", 2, 110);
    }

    private static void leastAtOnePlace() {
        by("FAULTS, at one place the least");
        // the 17th line begins where nothing of the kind can stand: 1 is less than 3
        bad(LAW, "eats 1;".repeat(16) + "when", 1, 112);
        bad(LAW, "eats 1;".repeat(16) + "fasts 1;", 1, 112);
        bad(LAW, "eats 1;".repeat(16) + ";", 1, 112);
        bad(SKY, "day 1 is 1;".repeat(16) + "is", 1, 176);
        bad(PLAN, "on 1 say 1;".repeat(16) + "say", 1, 176);
        bad(TENETS, "1 so 2;".repeat(16) + "so", 1, 112);
        bad(TENETS, "1 so 2;".repeat(16) + "12345 so 1;", 1, 112);
        // the 17th line's first NUMBER is beyond its bounds too: 2 is less than 3
        bad(TENETS, "1 so 2;".repeat(16) + "16 so 1;", 2, 112);
        bad(TENETS, "1 so 2;".repeat(16) + "15 so 1;", 3, 112);
        // a ( where none can stand is no 9th that is open
        bad(LAW, "eats 1 when " + "(".repeat(8) + "1(", 1, 21);
        bad(LAW, "eats 1 when " + "(".repeat(8) + "1=(", 1, 22);
        // a NUMBER beyond its bounds where none can stand
        bad(SKY, "1000", 1, 0);
        bad(SKY, "day 1 1000", 1, 6);
        bad(TENETS, "1 so 2 16;", 1, 7);
    }

    private static void theEnd() {
        by("FAULT 1 what can't stand there (the end: the text's length)");
        bad(LAW, "eats", 1, 4);
        bad(LAW, "eats ", 1, 5);
        bad(LAW, "eats 1\n\n", 1, 8);
        bad(SKY, "day", 1, 3);
        bad(PLAN, "on", 1, 2);
        bad(TENETS, "1", 1, 1);
        bad(TENETS, "1 and ", 1, 6);
        PillarSaints x = desert();
        due("a full TAPE", told(x, LAW, "eats" + " ".repeat(396)), -1);
        due("fault(0)", x.fault(0), 1);
        due("the end", x.fault(1), 400);
        due("a full TAPE", told(x, LAW, "eats 1;" + " ".repeat(392) + "x"), -1);
        due("its last sign", x.fault(1), 399);
    }

    private static void partByNought() {
        by("FAULT 2 (at the NUMBER) a part by 0");
        good(LAW, "eats 1/1;", 1);
        good(LAW, "eats 1/9999;", 1);
        bad(LAW, "eats 1/0;", 2, 7);
        bad(LAW, "eats 1/0000;", 2, 7);
        bad(LAW, "eats 1/ 0;", 2, 8);
        bad(LAW, "eats 1*2/3/0;", 2, 11);
        bad(LAW, "eats 1 when 1/0=1;", 2, 14);
        bad(LAW, "eats 1 when 1=1/0;", 2, 16);
        good(LAW, "eats 0/1;", 1);
        good(LAW, "eats 1*0;", 1);
    }

    private static void ninthOpen() {
        by("FAULT 3 (at it) the 9th ( or not that is open");
        good(LAW, "eats 1 when " + "(".repeat(8) + "1=1" + ")".repeat(8) + ";", 1);
        bad(LAW, "eats 1 when " + "(".repeat(9) + "1=1" + ")".repeat(9) + ";", 3, 20);
        good(LAW, "eats 1 when " + "not ".repeat(8) + "1=1;", 1);
        bad(LAW, "eats 1 when " + "not ".repeat(9) + "1=1;", 3, 44);
        good(LAW, "eats 1 when " + "not(".repeat(4) + "1=1" + ")".repeat(4) + ";", 1);
        bad(LAW, "eats 1 when " + "not(".repeat(4) + "not 1=1" + ")".repeat(4) + ";", 3, 28);
        bad(LAW, "eats 1 when " + "not(".repeat(4) + "(1=1)" + ")".repeat(4) + ";", 3, 28);
        // what is closed counts no more: a ) closes a (, the end of its C closes a not
        good(LAW, "eats 1 when " + "(1=1)and ".repeat(12) + "1=1;", 1);
        good(LAW, "eats 1 when " + "not 1=1 or ".repeat(12) + "1=1;", 1);
        good(LAW, "eats 1 when (not 1=1 and " + "(".repeat(7) + "1=1" + ")".repeat(8) + ";", 1);
        bad(LAW, "eats 1 when (not 1=1 and " + "(".repeat(8) + "1=1", 3, 32);
        good(LAW, "eats 1 when " + "(".repeat(8) + "1=1" + ")".repeat(8) + " or " + "not ".repeat(8) + "1=1;", 1);
        bad(LAW, "eats 1 when " + "(".repeat(8) + "1=1 and not 1=1", 3, 28);
        good(LAW, "eats 1 when " + "(".repeat(8) + "1=1" + ") and not 1=1" + ")".repeat(7) + ";", 1);
        due("eight not", law("dies 7 when not not not not not not not not 1=1;"), 7);
        due("seven not", law("dies 7 when not not not not not not not 1=1;"), 0);
    }

    private static void firstLineThatIsSo() {
        by("E of the first line with that word whose B is so, or that has none");
        PillarSaints x = desert();
        fine(x, LAW, "dies 1 when age<20;dies 2 when age=20 and doctrine>20;dies 3 when doctrine=20;dies 4;dies 5;eats 6;", 6);
        due("the fourth", x.of(0, 8), 4);
        due("the third", x.of(1, 8), 3);
        due("the second", x.of(2, 8), 2);
        due("another word", x.of(0, 7), 6);
        PillarSaints y = desert();
        fine(y, LAW, "dies 1;".repeat(14) + "leans 8 when 1=2;leans 9;", 16);
        due("the sixteenth", y.of(0, 9), 9);
        due("none of that word", y.of(0, 7), 1);
    }

    private static PillarSaints one(int age, int hunger) {
        PillarSaints x = row(5);
        x.saint(age, 0, 0);
        x.set(3, 0, hunger);
        return x;
    }

    private static void usualEats() {
        by("none: eats: 1 and hunger by 20");
        int[][] cases = {{0, 1}, {19, 1}, {20, 2}, {39, 2}, {40, 3}, {79, 4}, {80, 5}, {99, 5}};
        for (int[] c : cases) {
            due("eats with hunger " + c[0], one(20, c[0]).of(0, 7), c[1]);
        }
        PillarSaints x = one(20, 40);
        fine(x, LAW, "eats 9 when 1=2;", 1);
        due("no line is so", x.of(0, 7), 3);
    }

    private static void usualDies() {
        by("dies: age above 70 times 5 and hunger above 80 times 20, else 0 each");
        int[][] cases = {{0, 0, 0}, {70, 0, 0}, {71, 0, 5}, {120, 0, 250}, {20, 80, 0}, {20, 81, 20}, {20, 99, 380},
            {71, 81, 25}, {70, 81, 20}, {71, 80, 5}, {120, 99, 630}};
        for (int[] c : cases) {
            due("dies with " + c[0] + ", hunger " + c[1], one(c[0], c[1]).of(0, 8), c[2]);
        }
        PillarSaints x = one(71, 80);
        fine(x, LAW, "dies 9 when 1=2;", 1);
        due("no line is so", x.of(0, 8), 5);
    }

    private static void usualLeans() {
        by("leans: doctrine of above less his, by 4 (Quotients go downwards)");
        int[][] cases = {{0, 0, 0}, {3, 0, 0}, {4, 0, 1}, {0, 1, -1}, {0, 4, -1}, {0, 5, -2}, {99, -99, 49}, {-99, 99, -50}};
        for (int[] c : cases) {
            due("leans of " + c[1] + " below " + c[0], crowd(2, c[0], c[1]).of(1, 9), c[2]);
        }
        PillarSaints x = crowd(2, 4, 0);
        fine(x, LAW, "leans 9 when 1=2;", 1);
        due("no line is so", x.of(1, 9), 1);
    }

    private static void heldValues() {
        by("eats held to 0 .. 99, dies to 0 .. 1000, leans to -99 .. 99");
        due("eats", law("eats 99;"), 99);
        due("eats", law("eats 100;"), 99);
        due("eats", law("eats 1-1;"), 0);
        due("eats", law("eats 1-2;"), 0);
        due("dies", law("dies 1000;"), 1000);
        due("dies", law("dies 1001;"), 1000);
        due("dies", law("dies 1-1;"), 0);
        due("dies", law("dies 1-2;"), 0);
        due("leans", law("leans 99;"), 99);
        due("leans", law("leans 100;"), 99);
        due("leans", law("leans 0-99;"), -99);
        due("leans", law("leans 0-100;"), -99);
    }

    private static void placeAndTall() {
        by("place: his PILLAR and 1 (THE GROUND: 0); tall: of his PILLAR (0)");
        PillarSaints x = row(11, 12, 13, 14, 15, 16, 17, 18, 19, 20);
        for (int s = 0; s < 11; s++) {
            x.saint(20, 0, 0);
        }
        fine(x, LAW, "eats place;dies tall;", 2);
        due("place, the highest", x.of(0, 7), 10);
        due("tall, the highest", x.of(0, 8), 20);
        due("place, the lowest", x.of(9, 7), 1);
        due("tall, the lowest", x.of(9, 8), 11);
        due("place on THE GROUND", x.of(10, 7), 0);
        due("tall on THE GROUND", x.of(10, 8), 0);
    }

    private static void above() {
        by("above: DOCTRINE of who sits on the next PILLAR above on which one sits (nobody: his own)");
        PillarSaints x = crowd(3, 10, 20, 30, 40);
        fine(x, LAW, "leans above;dies 1000 when doctrine=20 and hunger=0;dies 0;", 3);
        due("the highest: his own", x.of(0, 9), 10);
        due("the next", x.of(1, 9), 10);
        due("the lowest", x.of(2, 9), 20);
        due("on THE GROUND: his own", x.of(3, 9), 40);
        // SAINT by SAINT: behind the death of the one between, the next above is one farther
        PillarSaints y = crowd(3, 10, 20, 30);
        fine(y, LAW, "eats 0;leans 0;dies 1000 when doctrine=20;dies 1000 when above=10 and doctrine=30;dies 0;", 5);
        due("both died", y.days(1), 2);
        due("who lives", y.look(6), 6);
    }

    private static void fullTape() {
        by("a text of 400 bytes");
        PillarSaints x = desert();
        due("a long sum", told(x, LAW, "dies 0" + "+1".repeat(196) + "; "), 1);
        due("dies", x.of(0, 8), 196);
        due("a long product", told(x, LAW, "dies 7" + "*1".repeat(196) + "; "), 1);
        due("dies", x.of(0, 8), 7);
        due("parts", told(x, LAW, "dies 7" + "/1".repeat(196) + "; "), 1);
        due("dies", x.of(0, 8), 7);
        due("a long B", told(x, LAW, "dies 7 when 1=2" + "or 1=2".repeat(64) + ";"), 1);
        due("dies", x.of(2, 8), 0);
        due("a long B", told(x, LAW, "dies 7 when 1=1" + "and 1=1".repeat(54) + ";"), 1);
        due("dies", x.of(2, 8), 7);
        String deep = "1=2 or 1=1 and(".repeat(8) + "2*3+4*5<2+3*4 or 1+2*3=1*7" + ")".repeat(8);
        due("a deep B", told(x, LAW, "dies 7 when " + deep + ";"), 1);
        due("dies", x.of(2, 8), 7);
    }
}
