/** "Terms", 3, A DAY: each sentence at its last value within and its first beyond. */
public final class TermsDayTest extends Due {
    public static void main(String[] args) {
        planForTheDay();
        planLoaves();
        planSay();
        planDown();
        planBuild();
        planCurse();
        planLineByLine();
        sky();
        basketFromTheHighest();
        eatsWhole();
        eatsInPart();
        leftBehindAll();
        hungerOnGround();
        adviceComes();
        adviceByNine();
        adviceWhereNobodySits();
        adviceHeld();
        adviceForgotten();
        doctrineLeans();
        doctrineAtHisTurn();
        ageOneMore();
        diesIsAsked();
        drawOnlyAboveNought();
        placeIsEmpty();
        climbBehindAllDeaths();
        dayOneMore();
        sendAtMost();
        bookKinds();
        bookOnlyAboveNought();
        bookIsFull();
        finish("terms 3");
    }

    private static void plan(PillarSaints x, String s, int lines) {
        fine(x, 2, s, lines);
    }

    private static void planForTheDay() {
        by("(a) Line by line of A PLAN for it");
        PillarSaints x = calm("", 1);
        plan(x, "on 0 loaves 1;on 1 loaves 2;on 998 loaves 4;on 999 loaves 8;", 4);
        x.days(1);
        due("DAY 0", x.look(4), 1);
        x.days(1);
        due("DAY 1", x.look(4), 3);
        for (int i = 0; i < 16; i++) {
            x.days(60);
        }
        due("until DAY 962", x.look(4), 3);
        x.days(36);
        due("until DAY 998", x.look(4), 3);
        x.days(1);
        due("DAY 998", x.look(4), 7);
        x.days(1);
        due("DAY 999", x.look(4), 15);
        x.days(1);
        due("DAY 1000", x.look(4), 15);
    }

    private static void planLoaves() {
        by("loaves: BASKET is N");
        PillarSaints x = calm("", 1);
        x.act(0, 0, 500);
        plan(x, "on 0 loaves 7;on 2 loaves 0;on 3 loaves 999;", 3);
        x.days(1);
        due("not 500 more", x.look(4), 7);
        x.days(1);
        x.act(0, 0, 500);
        x.days(1);
        due("none", x.look(4), 7);
        x.days(1);
        due("as many as can be", x.look(4), 1006);
    }

    private static void planSay() {
        by("say: ADVICE of the highest PILLAR on which one sits is N (nobody: nothing)");
        PillarSaints x = calm("", 3, 5, 6);
        plan(x, "on 0 say 0;on 0 say 99;", 2);
        x.days(1);
        due("from the highest to the next", x.at(1, 2), 99);
        PillarSaints nobody = calm("", 3);
        plan(nobody, "on 0 say 99;", 1);
        nobody.days(1);
        for (int p = 0; p < 3; p++) {
            due("nobody: nothing", nobody.at(p, 2), -100);
        }
        PillarSaints none = new PillarSaints();
        plan(none, "on 0 say 99;", 1);
        due("without PILLARS", none.days(1), 0);
    }

    private static void planDown() {
        by("down: who sits on a PILLAR is behind all on THE GROUND, ALL CLIMB");
        PillarSaints x = calm("", 2, 5, 6, 7, 8);
        plan(x, "on 0 down 0;on 1 down 0;", 2);
        x.days(1);
        due("behind all", x.of(0, 6), 1);
        due("climbed", x.of(1, 5), 1);
        due("climbed", x.of(2, 5), 0);
        int lines = x.look(8);
        x.days(1);
        due("on THE GROUND already: nothing", x.of(0, 6), 1);
        due("no line", x.look(8), lines);
        PillarSaints alone = calm("", 1, 5);
        plan(alone, "on 0 down 0;", 1);
        alone.days(1);
        due("alone: down, and up again", alone.of(0, 5), 0);
        due("a line for each", alone.look(8), 3);
        PillarSaints dead = calm("dies 1000 when day=0;", 1, 5);
        plan(dead, "on 1 down 0;", 1);
        dead.days(2);
        due("DEAD: nothing", dead.of(0, 6), -1);
    }

    private static void planBuild() {
        by("build: TALL is N");
        PillarSaints x = calm("", 2, 5);
        plan(x, "on 0 build 0 99;on 0 build 1 1;", 2);
        x.days(1);
        due("at(0, 0)", x.at(0, 0), 99);
        due("at(1, 0)", x.at(1, 0), 1);
    }

    private static void planCurse() {
        by("curse: HUNGER 99 of one not DEAD");
        PillarSaints x = calm("dies 1000 when doctrine=6;", 1, 5, 6, 7);
        plan(x, "on 1 curse 0;on 1 curse 1;on 1 curse 2;", 3);
        x.days(1);
        due("DEAD with", x.of(1, 3), 1);
        x.days(1);
        due("on a PILLAR, then 10 less", x.of(0, 3), 89);
        due("on THE GROUND", x.of(2, 3), 99);
        due("DEAD: nothing", x.of(1, 3), 1);
    }

    private static void planLineByLine() {
        by("(a) Line by line");
        PillarSaints x = calm("", 2, 5, 6, 7);
        plan(x, "on 0 say 1;on 0 down 0;on 0 say 2;on 0 loaves 3;on 0 loaves 4;on 0 down 1;", 6);
        x.days(1);
        due("the last say", x.at(0, 2), 2);
        due("the last loaves", x.look(4), 4);
        due("down, one behind the other", x.at(1, 1), 2);
        due("down, one behind the other", x.at(0, 1), 0);
    }

    private static void sky() {
        by("(b) Is there a line of SKY for it, WEATHER is as it tells");
        PillarSaints x = calm("", 1);
        x.set(4, 0, 4);
        fine(x, 1, "day 1 is 0;day 3 is 9;", 2);
        int[] due = {4, 0, 0, 9, 9};
        for (int day = 0; day < due.length; day++) {
            x.days(1);
            due("WEATHER behind DAY " + day, x.look(5), due[day]);
        }
        PillarSaints late = calm("", 1);
        fine(late, 1, "day 999 is 9;", 1);
        for (int i = 0; i < 16; i++) {
            late.days(60);
        }
        late.days(39);
        due("until DAY 999", late.look(5), 0);
        late.days(1);
        due("DAY 999", late.look(5), 9);
        // the law of that day sees it already: (b) is ahead of (c)
        PillarSaints seen = crowd(1, 5);
        fine(seen, 0, "eats weather;dies 0;", 2);
        fine(seen, 1, "day 0 is 3;", 1);
        seen.act(0, 0, 5);
        seen.days(1);
        due("(b) ahead of (c)", seen.look(4), 2);
    }

    private static void basketFromTheHighest() {
        by("(c) The BASKET goes from the highest PILLAR down: who sits there takes eats, or what is left");
        PillarSaints x = crowd(4, 5, 6, 7);
        fine(x, 0, "eats 4;dies 0;leans 0;", 3);
        x.act(0, 0, 9);
        int lines = x.look(8);
        x.days(1);
        due("the highest first", x.book(lines, 2), 0);
        due("whole", x.book(lines, 3), 4);
        due("the next", x.book(lines + 1, 3), 4);
        due("what is left", x.book(lines + 2, 3), 1);
        due("nobody else", x.look(8), lines + 3);
        due("nothing is left behind all", x.look(4), 0);
    }

    private static int hungerBehind(int eats, int loaves, int hunger) {
        PillarSaints x = crowd(1, 0);
        told(x, 0, "eats " + eats + ";dies 0;");
        x.set(3, 0, hunger);
        if (loaves > 0) {
            x.act(0, 0, loaves);
        }
        x.days(1);
        return x.of(0, 3);
    }

    private static void eatsWhole() {
        by("has he eats whole, HUNGER is 10 less (0 at least)");
        due("from 99", hungerBehind(4, 4, 99), 89);
        due("from 11", hungerBehind(4, 4, 11), 1);
        due("from 10", hungerBehind(4, 5, 10), 0);
        due("from 9", hungerBehind(4, 4, 9), 0);
        due("from 0", hungerBehind(4, 4, 0), 0);
        due("of none, whole", hungerBehind(0, 0, 50), 40);
        due("the most", hungerBehind(99, 99, 50), 40);
    }

    private static void eatsInPart() {
        by("else as many more as he lacks, times 5 (99 at most)");
        due("lacks one", hungerBehind(4, 3, 0), 5);
        due("lacks all", hungerBehind(4, 0, 0), 20);
        due("just 99", hungerBehind(4, 3, 94), 99);
        due("beyond 99", hungerBehind(4, 3, 95), 99);
        due("at 99", hungerBehind(4, 3, 99), 99);
        due("lacks 19", hungerBehind(99, 80, 0), 95);
        due("lacks 20", hungerBehind(99, 79, 0), 99);
        due("lacks 99", hungerBehind(99, 0, 0), 99);
    }

    private static void leftBehindAll() {
        by("what is left behind all is added to LEFT; BASKET is 0");
        int[][] cases = {{7, 0}, {8, 0}, {9, 1}, {999, 991}};
        for (int[] c : cases) {
            PillarSaints x = crowd(2, 0, 0, 0);
            fine(x, 0, "eats 4;dies 0;", 2);
            x.act(0, 0, c[0]);
            x.days(1);
            due("LEFT of " + c[0], x.look(4), c[1]);
            due("BASKET", x.look(3), 0);
            x.act(0, 0, 10);
            x.days(1);
            due("added", x.look(4), c[1] + 2);
        }
    }

    private static void hungerOnGround() {
        by("Then of all on THE GROUND, in their row, HUNGER is 1 more (99 at most)");
        PillarSaints x = calm("dies 1000 when doctrine=4;", 1, 0, 1, 2, 3, 4);
        x.set(3, 2, 98);
        x.set(3, 3, 99);
        x.days(1);
        due("from 0", x.of(1, 3), 1);
        due("from 98", x.of(2, 3), 99);
        due("from 99", x.of(3, 3), 99);
        due("on the PILLAR", x.of(0, 3), 0);
        due("the first of those days", x.of(4, 3), 1);
        x.days(1);
        due("DEAD: no more", x.of(4, 3), 1);
        // then: behind the BASKET, ahead of (f)
        PillarSaints y = calm("dies 1000 when hunger=1;", 1, 0, 0);
        due("ahead of (f)", y.days(1), 1);
    }

    private static void adviceComes() {
        by("(d) is there ADVICE on the next higher PILLAR, it comes here, and is there no more");
        PillarSaints x = calm("", 3, 0, 0, 0);
        x.act(1, 0, 50);
        x.days(1);
        due("here", x.at(1, 2), 50);
        due("there no more", x.at(2, 2), -100);
        x.act(1, 0, 60);
        x.days(1);
        due("from the lowest up: both came", x.at(0, 2), 50);
        due("from the lowest up: both came", x.at(1, 2), 60);
        x.act(1, 0, 0);
        x.days(1);
        due("0 is ADVICE too", x.at(1, 2), 0);
    }

    private static int came(int leans, int v) {
        PillarSaints x = crowd(2, 0, 0);
        told(x, 0, "dies 0;eats 0;leans " + (leans < 0 ? "0-" + -leans : "" + leans) + ";");
        x.act(1, 0, v);
        x.days(1);
        return x.at(0, 2);
    }

    private static void adviceByNine() {
        by("as it was there, more or less by leans by 9 (Quotients go downwards)");
        int[][] cases = {{0, 0}, {8, 0}, {9, 1}, {17, 1}, {18, 2}, {98, 10}, {99, 11},
            {-1, -1}, {-9, -1}, {-10, -2}, {-18, -2}, {-19, -3}, {-99, -11}};
        for (int[] c : cases) {
            due("by leans of " + c[0], came(c[0], 40), 40 + c[1]);
        }
        // of who sits here, ahead of (e)
        PillarSaints x = calm("leans 9 when place=1 and doctrine=0;leans 99 when place=2;", 2, 0, 0);
        x.act(1, 0, 40);
        x.days(1);
        due("of who sits here", x.at(0, 2), 41);
    }

    private static void adviceWhereNobodySits() {
        by("nobody sits here: as it was");
        PillarSaints x = calm("leans 99;", 4, 0, 0);
        x.act(1, 0, 40);
        x.days(1);
        due("who sits here", x.at(2, 2), 51);
        x.days(1);
        due("nobody", x.at(1, 2), 51);
        x.days(1);
        due("nobody", x.at(0, 2), 51);
    }

    private static void adviceHeld() {
        by("-99 .. 99 held");
        due("just", came(9, 98), 99);
        due("beyond", came(9, 99), 99);
        due("far beyond", came(99, 99), 99);
        due("just", came(-9, -98), -99);
        due("beyond", came(-9, -99), -99);
        due("far beyond", came(-99, -99), -99);
        due("just", came(99, 88), 99);
        due("within", came(99, 87), 98);
        due("within", came(-99, -87), -98);
    }

    private static void adviceForgotten() {
        by("ADVICE on PILLAR 0 is forgotten ahead of that");
        PillarSaints x = calm("", 1, 0);
        x.act(1, 0, 50);
        due("said", x.at(0, 2), 50);
        int lines = x.look(8);
        x.days(1);
        due("forgotten", x.at(0, 2), -100);
        due("no line", x.look(8), lines);
        PillarSaints y = calm("", 2, 0, 0);
        y.act(1, 0, 50);
        y.days(1);
        y.act(1, 0, 60);
        y.days(1);
        due("the next one came", y.at(0, 2), 60);
        y.days(1);
        due("forgotten", y.at(0, 2), -100);
    }

    private static int leant(int doctrine, String leans) {
        PillarSaints x = crowd(1, doctrine);
        told(x, 0, "dies 0;eats 0;leans " + leans + ";");
        x.days(1);
        return x.of(0, 2);
    }

    private static void doctrineLeans() {
        by("(e) DOCTRINE is leans more (-99 .. 99 held)");
        due("just", leant(98, "1"), 99);
        due("beyond", leant(99, "1"), 99);
        due("far beyond", leant(99, "99"), 99);
        due("just", leant(-98, "0-1"), -99);
        due("beyond", leant(-99, "0-1"), -99);
        due("far beyond", leant(-99, "0-99"), -99);
        due("across", leant(-99, "99"), 0);
        PillarSaints x = calm("leans 5;", 1, 0, 0);
        x.days(1);
        due("who sits there", x.of(0, 2), 5);
        due("THE GROUND leans not", x.of(1, 2), 0);
    }

    private static void doctrineAtHisTurn() {
        by("(e) PILLAR by PILLAR from the lowest up (as all are at his turn)");
        PillarSaints x = crowd(3, 40, 0, 0);
        fine(x, 0, "dies 0;leans above-doctrine when place<3;leans 50;", 3);
        x.days(1);
        due("the lowest, ahead of the next", x.of(2, 2), 0);
        due("the next, ahead of the highest", x.of(1, 2), 40);
        due("the highest", x.of(0, 2), 90);
    }

    private static void ageOneMore() {
        by("(f) AGE one more (120 at most)");
        PillarSaints x = calm("dies 1000 when doctrine=3;", 1, 0, 0, 0, 3);
        x.set(0, 0, 118);
        x.set(0, 1, 119);
        x.set(0, 2, 120);
        x.days(1);
        due("from 118", x.of(0, 0), 119);
        due("from 119, on THE GROUND", x.of(1, 0), 120);
        due("from 120", x.of(2, 0), 120);
        due("of who died", x.of(3, 0), 21);
        x.days(1);
        due("DEAD: no more", x.of(3, 0), 21);
    }

    private static void diesIsAsked() {
        by("(f) SAINT by SAINT not DEAD: AGE one more; dies is asked");
        PillarSaints x = calm("dies 1000 when age=21;", 1, 0);
        due("with the new AGE", x.days(1), 1);
        PillarSaints y = calm("dies 1000 when age=20;", 1, 0);
        due("not with the old one", y.days(1), 0);
        int[] dies = {999, 1000};
        for (int d : dies) {
            // the draw is 999: below it is only 1000
            PillarSaints z = calm("dies " + d + ";", 1, 0);
            z.state(stateThatDrawsMost());
            due("dies " + d, z.days(1), d - 999);
        }
    }

    private static int stateThatDrawsMost() {
        int state = 0;
        while (((state * 1664525L + 1013904223L & 0xffffffffL) >> 8) % 1000 != 999) {
            state++;
        }
        return state;
    }

    private static void drawOnlyAboveNought() {
        by("(f) above 0: a DRAW of 1000");
        PillarSaints x = calm("dies 0;", 1, 0);
        x.state(5);
        x.days(1);
        due("0: no draw", x.look(9), 5);
        PillarSaints less = calm("dies 0-5;", 1, 0);
        less.state(5);
        less.days(1);
        due("below 0: no draw", less.look(9), 5);
        PillarSaints y = calm("dies 1;", 1, 0);
        y.state(5);
        y.days(1);
        due("1: a draw", y.look(9), 5 * 1664525 + 1013904223);
        PillarSaints z = calm("dies 1000 when doctrine=1;dies 1 when doctrine=2;", 1, 0, 1, 2);
        z.days(1);
        int once = 1013904223;
        due("one each, SAINT by SAINT", z.look(9), once * 1664525 + 1013904223);
        z.days(1);
        due("none for one DEAD", z.look(9), (once * 1664525 + 1013904223) * 1664525 + 1013904223);
    }

    private static void placeIsEmpty() {
        by("(f) his PILLAR (his place on THE GROUND) is empty");
        PillarSaints x = calm("dies 1000 when doctrine=1 or doctrine=5;", 1, 1, 4, 5, 6);
        due("died", x.days(1), 2);
        due("his PILLAR", x.of(0, 5), -1);
        due("the first on THE GROUND came up", x.at(0, 1), 1);
        due("his place on THE GROUND", x.of(2, 6), -1);
        due("who was behind him", x.of(3, 6), 0);
        due("how many", x.look(7), 1);
    }

    private static void climbBehindAllDeaths() {
        by("(f) behind all these ALL CLIMB");
        // who came up at once would have place 1 and die too
        PillarSaints x = calm("dies 1000 when place=1;", 1, 0, 0, 0);
        due("one died", x.days(1), 1);
        due("the next came up", x.at(0, 1), 1);
        due("one died", x.days(1), 1);
        due("one died", x.days(1), 1);
        due("nobody is left", x.at(0, 1), -1);
        due("none died", x.days(1), 0);
    }

    private static void dayOneMore() {
        by("(g) DAY is one more");
        PillarSaints x = calm("dies 1000 when day=1;", 1, 0);
        due("on DAY 0", x.days(1), 0);
        due("look(2)", x.look(2), 1);
        due("on DAY 1", x.days(1), 1);
        due("look(2)", x.look(2), 2);
        due("the line of his death", x.book(x.look(8) - 1, 0), 1);
    }

    private static void sendAtMost() {
        by("to SEND loaves (BASKET is N more, 999 at most)");
        PillarSaints x = new PillarSaints();
        x.act(0, 0, 1);
        x.act(0, 0, 997);
        due("998", x.look(3), 998);
        x.act(0, 0, 1);
        due("999", x.look(3), 999);
        x.act(0, 0, 1);
        due("at most", x.look(3), 999);
        due("each can be undone", x.look(15), 4);
    }

    private static void line(PillarSaints x, int i, int... due) {
        for (int what = 0; what < 4; what++) {
            due("book(" + i + ", " + what + ")", x.book(i, what), due[what]);
        }
    }

    private static void bookKinds() {
        by("THE BOOK: DAY, what, which, how much");
        PillarSaints x = crowd(2, 7, 8, 9);
        line(x, 0, 0, 2, 0, 1);
        line(x, 1, 0, 2, 1, 0);
        due("no line for who stays on THE GROUND", x.look(8), 2);
        fine(x, 0, "eats 3;leans 9 when place=1;leans 0;dies 1000 when doctrine=7 and day=1;dies 0;", 5);
        x.days(1);
        due("no line of a day on which nothing is", x.look(8), 2);
        x.act(0, 0, 4);
        x.act(1, 0, 60);
        x.days(1);
        line(x, 2, 1, 0, 0, 3);
        line(x, 3, 1, 0, 1, 1);
        line(x, 4, 1, 4, 0, 61);
        line(x, 5, 1, 1, 0, 22);
        line(x, 6, 1, 2, 1, 1);
        line(x, 7, 1, 2, 2, 0);
        x.act(2, 1, 0);
        line(x, 8, 2, 3, 1, 1);
        line(x, 9, 2, 2, 2, 1);
        line(x, 10, 2, 2, 1, 0);
        due("lines", x.look(8), 11);
    }

    private static void bookOnlyAboveNought() {
        by("0: loaves he took, a line only if above 0");
        PillarSaints x = crowd(2, 0, 0);
        fine(x, 0, "eats 2;dies 0;", 2);
        x.act(0, 0, 1);
        x.days(1);
        due("a line for one that took 1, none for one that took 0", x.look(8), 3);
        line(x, 2, 0, 0, 0, 1);
        PillarSaints y = calm("", 1, 0);
        y.act(0, 0, 9);
        y.days(1);
        due("none for one that eats 0", y.look(8), 1);
    }

    private static void bookIsFull() {
        by("THE BOOK (150 lines; no more then)");
        PillarSaints x = crowd(1, 0);
        x.act(2, 0, 0);
        for (int i = 0; i < 73; i++) {
            x.act(2, 0, 0);
        }
        due("149 lines", x.look(8), 149);
        due("the last", x.book(148, 1), 2);
        due("beyond", x.book(149, 1), -100);
        x.act(2, 0, 0);
        due("150 lines, of two only the first", x.look(8), 150);
        due("the last", x.book(149, 1), 3);
        due("beyond", x.book(150, 1), -100);
        x.act(2, 0, 0);
        due("no more", x.look(8), 150);
        due("as it was", x.book(149, 1), 3);
        due("what is done is done all the same", x.look(15), 6);
        x.undo();
        due("full still", x.look(8), 150);
        x.undo();
        due("one goes back", x.look(8), 149);
        due("beyond", x.book(149, 1), -100);
        x.act(0, 0, 1);
        x.days(1);
        due("full again", x.look(8), 150);
        due("another line", x.book(149, 1), 0);
    }
}
