/** For each promise, runs of calls that show it: ordinary inputs, the edges that the document names, wrong inputs. */
public final class PromisesTest {
    private static final int MIN = Integer.MIN_VALUE;
    private static final int MAX = Integer.MAX_VALUE;
    private static final int SUM = 0;
    private static final int COUNT = 1;
    private static final int GREATEST = 2;
    private static final int LEAST = 3;
    private static int checks = 0;
    private static int wrong = 0;

    private static void due(String what, int got, int want) {
        checks++;
        if (got != want) {
            wrong++;
            System.out.println(what + ": answered " + got + ", due is " + want);
        }
    }

    private static void due(String what, boolean got, boolean want) {
        due(what, got ? 1 : 0, want ? 1 : 0);
    }

    /** Two people with 0 .. 3 and need 2, whose hidden numbers are 2 and 1. */
    private static SumsThatTell pair() {
        SumsThatTell x = new SumsThatTell();
        x.person(2, 0, 3, 2);
        x.person(1, 0, 3, 2);
        return x;
    }

    /** Askers 0 and 1 were each told what is harmless alone, but since they joined they know that person 0 has 4. */
    private static SumsThatTell knownTooClosely() {
        SumsThatTell x = new SumsThatTell();
        x.person(4, 0, 7, 3);
        x.person(1, 0, 7, 2);
        due("setup: 4 or more", x.ask(0, COUNT, 1, 4), 1);
        due("setup: less than 5", x.ask(1, COUNT, 1, 5), 0);
        due("setup: fine for one", x.broken(0), false);
        due("setup: fine for the other", x.broken(1), false);
        due("setup: they join", x.join(1, 0), true);
        return x;
    }

    private static void newObject() {
        due("1: NONE", SumsThatTell.NONE, -1);
        SumsThatTell x = new SumsThatTell();
        int[] counts = {0, 0, 1, 0, 0, 0, 4};
        for (int what = 0; what < counts.length; what++) {
            due("1: count(" + what + ")", x.count(what), counts[what]);
        }
        for (int asker = 0; asker < 4; asker++) {
            due("1: tables", x.tables(asker), 1);
            due("1: broken", x.broken(asker), false);
            due("1: most", x.most(asker), 0);
            due("1: together, nothing", x.together(asker, 0), true);
            due("1: together, something", x.together(asker, 1), false);
            for (int kind = 0; kind < 4; kind++) {
                due("1: would of nobody", x.would(asker, kind, -1, 1), 2);
            }
        }
        for (int k = 0; k < 3; k++) {
            due("1: no image", x.again(k), false);
        }
        due("1: no person", x.tell(0, 0), -1);
        due("1: no number", x.tell(0, 1), -1);
        due("1: no ask", x.asked(0, 0), -1);
        due("1: knows of none", x.knows(0, 0, 0), -1);
        SumsThatTell y = pair();
        due("1: objects are apart", x.count(0), 0);
        due("1: objects are apart", y.count(0), 2);
    }

    private static void person() {
        SumsThatTell x = new SumsThatTell();
        due("2: least below 0", x.person(0, -1, 3, 1), -1);
        due("2: greatest above 20", x.person(5, 0, 21, 1), -1);
        due("2: least above greatest", x.person(3, 4, 3, 1), -1);
        due("2: value below", x.person(1, 2, 4, 1), -1);
        due("2: value above", x.person(5, 2, 4, 1), -1);
        due("2: need 0", x.person(3, 2, 4, 0), -1);
        due("2: need 4 of 3", x.person(3, 2, 4, 4), -1);
        due("2: need below", x.person(3, 2, 4, MIN), -1);
        due("2: huge range", x.person(0, MIN, MAX, 1), -1);
        due("2: huge ends", x.person(0, MAX, MIN, 1), -1);
        due("2: huge value", x.person(MAX, 0, 20, 1), -1);
        due("2: refused ones count for nothing", x.count(1), 0);
        due("2: least value, full need", x.person(2, 2, 4, 3), 0);
        due("2: greatest value", x.person(4, 2, 4, 1), 1);
        due("2: one value", x.person(20, 20, 20, 1), 2);
        due("2: tables", x.count(2), 9);
        due("2: whole range", x.person(20, 0, 20, 21), 3);
        due("2: tables", x.count(2), 189);
        due("2: sum 61", x.person(0, 0, 13, 1), -1);
        due("2: sum 60", x.person(0, 0, 12, 1), 4);
        due("2: tables", x.count(2), 2457);
        due("2: any more breaks the sum", x.person(1, 1, 1, 1), -1);
        due("2: nothing more to the sum", x.person(0, 0, 0, 1), 5);
        due("2: seventh", x.person(0, 0, 0, 1), 6);
        due("2: eighth", x.person(0, 0, 0, 1), 7);
        due("2: ninth", x.person(0, 0, 0, 1), -1);
        due("2: people", x.count(0), 8);
        fullTables();
        tenNumbers();
    }

    private static void fullTables() {
        SumsThatTell x = new SumsThatTell();
        for (int i = 0; i < 3; i++) {
            due("2: sixteen values", x.person(i, 0, 15, 2), i);
        }
        due("2: 4096 tables", x.count(2), 4096);
        due("2: all left", x.tables(3), 4096);
        due("2: 8192 tables", x.person(0, 0, 1, 1), -1);
        due("2: 4096 stay", x.person(1, 1, 1, 1), 3);
        due("2: all left", x.tables(3), 4096);
        due("2: the sum of all", x.ask(0, SUM, 15, 20), 0);
        SumsThatTell y = new SumsThatTell();
        for (int i = 0; i < 3; i++) {
            due("2: sixteen values", y.person(i, 0, 15, 2), i);
        }
        due("2: 60 by a number of one value", y.person(15, 15, 15, 1), 3);
        due("2: the greatest answer of all", y.ask(0, SUM, 8, 1), 15);
        due("2: 61", y.person(1, 1, 1, 1), -1);
    }

    private static void tenNumbers() {
        SumsThatTell x = new SumsThatTell();
        x.person(0, 0, 1, 1);
        for (int i = 1; i < 10; i++) {
            due("2: another number", x.change(0, i % 2), i);
        }
        due("2: ten numbers", x.person(0, 0, 0, 1), -1);
        due("2: one person", x.count(0), 1);
        due("2: tables", x.count(2), 1024);
    }

    private static void change() {
        SumsThatTell x = pair();
        due("3: no person", x.change(2, 1), -1);
        due("3: no person", x.change(-1, 1), -1);
        due("3: no person", x.change(MAX, 1), -1);
        due("3: no person", x.change(MIN, 1), -1);
        due("3: value above", x.change(0, 4), -1);
        due("3: value below", x.change(0, -1), -1);
        due("3: nothing was changed", x.count(1), 2);
        due("3: a change", x.change(0, 0), 2);
        due("3: of the other", x.change(1, 3), 3);
        due("3: the first again", x.change(0, 3), 4);
        due("3: people", x.count(0), 2);
        due("3: tables", x.count(2), 1024);
        due("3: least", x.tell(4, 2), 0);
        due("3: greatest", x.tell(4, 3), 3);
        due("3: need", x.tell(4, 4), 2);
        due("3: asks are of the newest", x.ask(0, SUM, 3, 4), 4);
        due("3: 4096 tables", x.change(0, 1), 5);
        due("3: 16384 tables", x.change(0, 1), -1);
        due("3: it stays as it was", x.tell(0, 0), 5);
        SumsThatTell y = new SumsThatTell();
        y.person(20, 20, 20, 1);
        due("3: sum 40", y.change(0, 20), 1);
        due("3: sum 60", y.change(0, 20), 2);
        due("3: sum 80", y.change(0, 20), -1);
        SumsThatTell z = new SumsThatTell();
        z.person(0, 0, 0, 1);
        for (int i = 1; i < 10; i++) {
            due("3: numbers up to ten", z.change(0, 0), i);
        }
        due("3: an eleventh", z.change(0, 0), -1);
        oldNumbersStayKnown();
    }

    private static void oldNumbersStayKnown() {
        SumsThatTell x = pair();
        due("3: half of the first", x.ask(0, COUNT, 1, 2), 1);
        x.change(0, 0);
        due("3: the old one is known", x.knows(0, 0, 0), 2);
        due("3: the new one is not", x.knows(0, 2, 3), 4);
        due("3: beside what was known", x.tables(0), 32);
        due("3: half of the new one", x.ask(0, COUNT, 1, 2), 0);
        due("3: the old one as it was", x.knows(0, 0, 1), 3);
        due("3: the new one is known", x.knows(0, 2, 1), 1);
    }

    private static void ask() {
        SumsThatTell x = new SumsThatTell();
        int[] hidden = {5, 0, 7};
        for (int value : hidden) {
            x.person(value, 0, 7, 1);
        }
        due("4: sum", x.ask(0, SUM, 7, 1), 12);
        due("4: sum cut to 5", x.ask(1, SUM, 7, 5), 10);
        due("4: sum cut to 20", x.ask(1, SUM, 7, 20), 0);
        due("4: people that are none", x.ask(0, SUM, -8 | 1, 1), 5);
        due("4: count 0 or more", x.ask(0, COUNT, 7, 0), 3);
        due("4: count 5 or more", x.ask(0, COUNT, 7, 5), 2);
        due("4: count 6 or more", x.ask(0, COUNT, 7, 6), 1);
        due("4: count 20 or more", x.ask(0, COUNT, 7, 20), 0);
        due("4: greatest", x.ask(0, GREATEST, 3, MIN), 5);
        due("4: least", x.ask(0, LEAST, 5, MAX), 5);
        due("4: least of all", x.ask(0, LEAST, -1, -1), 0);
        for (int kind = 0; kind < 4; kind++) {
            due("4: of nobody", x.ask(0, kind, 0, 1), 0);
            due("4: of people that are none", x.ask(0, kind, 8, 1), 0);
        }
        int before = x.count(3);
        due("4: no asker", x.ask(4, SUM, 7, 1), -1);
        due("4: no asker", x.ask(-1, SUM, 7, 1), -1);
        due("4: no kind", x.ask(0, 4, 7, 1), -1);
        due("4: no kind", x.ask(0, -1, 7, 1), -1);
        due("4: sum cut to 0", x.ask(0, SUM, 7, 0), -1);
        due("4: sum cut to 21", x.ask(0, SUM, 7, 21), -1);
        due("4: count of -1", x.ask(0, COUNT, 7, -1), -1);
        due("4: count of 21", x.ask(0, COUNT, 7, 21), -1);
        due("4: none of these counts", x.count(3), before);
        refusals();
        twoHundredAsks();
    }

    private static void refusals() {
        SumsThatTell x = pair();
        due("4: some sum would tell", x.ask(0, SUM, 3, 1), -2);
        due("4: a refusal tells nothing", x.tables(0), 16);
        due("4: the same for others' numbers", x.ask(1, GREATEST, 3, 0), -2);
        due("4: granted", x.ask(0, COUNT, 3, 2), 1);
        due("4: and kept", x.tables(0), 8);
        due("4: by nobody else", x.tables(1), 16);
        due("4: it follows now", x.ask(0, COUNT, 3, 2), 1);
        due("4: nothing new", x.tables(0), 8);
        SumsThatTell ends = new SumsThatTell();
        ends.person(0, 0, 2, 3);
        ends.person(2, 0, 2, 3);
        ends.person(1, 0, 2, 1);
        due("4: close goes from the least to the greatest", ends.would(0, SUM, 3, 2), 0);
        due("4: one number may be known", ends.ask(0, SUM, 4, 1), 1);
        due("4: the others may not", ends.ask(0, SUM, 5, 1), -2);
        SumsThatTell loose = new SumsThatTell();
        loose.person(3, 0, 9, 5);
        due("4: just its need", loose.ask(0, COUNT, 1, 5), 0);
        due("4: one fewer", loose.ask(1, COUNT, 1, 6), -2);
        due("4: but what follows is told", loose.ask(0, COUNT, 1, 5), 0);
        due("4: but what follows is told", loose.ask(0, COUNT, 1, 20), 0);
    }

    private static void twoHundredAsks() {
        SumsThatTell x = pair();
        for (int i = 0; i < 200; i++) {
            due("4: ask " + i, x.ask(i % 4, SUM, 3, i % 2 == 0 ? 1 : 20), i % 2 == 0 ? -2 : 0);
        }
        due("4: one more", x.ask(0, SUM, 3, 20), -1);
        due("4: 200 asks", x.count(3), 200);
        due("4: 100 refused", x.count(4), 100);
        due("5: would goes on", x.would(0, SUM, 3, 20), 2);
        due("11: the last", x.asked(199, 0), 3);
        due("11: none after", x.asked(200, 0), -1);
    }

    private static void would() {
        SumsThatTell x = pair();
        due("5: refused", x.would(0, SUM, 3, 1), 0);
        due("5: granted", x.would(0, SUM, 3, 4), 1);
        due("5: follows, as no sum is above 6", x.would(0, SUM, 3, 7), 2);
        due("5: follows of nobody", x.would(0, SUM, 4, 1), 2);
        due("5: follows by the range", x.would(0, COUNT, 3, 4), 2);
        due("5: extra for nothing", x.would(0, LEAST, 3, MIN), 0);
        due("5: no asker", x.would(4, SUM, 3, 4), -1);
        due("5: no asker", x.would(-1, SUM, 3, 4), -1);
        due("5: no kind", x.would(0, 4, 3, 4), -1);
        due("5: no kind", x.would(0, -1, 3, 4), -1);
        due("5: no extra", x.would(0, SUM, 3, 0), -1);
        due("5: no extra", x.would(0, SUM, 3, 21), -1);
        due("5: no extra", x.would(0, COUNT, 3, -1), -1);
        due("5: no extra", x.would(0, COUNT, 3, 21), -1);
        due("5: least extra of a count", x.would(0, COUNT, 3, 0), 2);
        due("5: nothing was asked", x.count(3), 0);
        due("5: nothing is known", x.tables(0), 16);
    }

    private static void join() {
        SumsThatTell x = pair();
        due("6: not with oneself", x.join(0, 0), false);
        due("6: no asker", x.join(0, 4), false);
        due("6: no asker", x.join(-1, 0), false);
        due("6: no askers", x.join(4, 4), false);
        due("6: told one", x.ask(3, COUNT, 1, 2), 1);
        due("6: told another", x.ask(1, COUNT, 2, 2), 0);
        due("6: they join", x.join(3, 1), true);
        due("6: both know", x.tables(1), 4);
        due("6: both know", x.tables(3), 4);
        due("6: others don't", x.tables(0), 16);
        due("6: already", x.join(1, 3), false);
        due("6: three sets", x.count(6), 3);
        due("6: others join", x.join(2, 0), true);
        due("6: already", x.join(0, 2), false);
        due("6: all join", x.join(1, 0), true);
        due("6: one set", x.count(6), 1);
        for (int asker = 0; asker < 4; asker++) {
            due("6: all know", x.tables(asker), 4);
        }
        due("6: already, by others", x.join(3, 2), false);
        due("6: what one is told", x.ask(2, SUM, 3, 20), 0);
        due("6: a new number", x.person(0, 0, 1, 1), 2);
        due("6: is told to one", x.ask(0, SUM, 4, 1), 0);
        due("6: all know it", x.knows(3, 2, 3), 1);
        due("6: equal knowledge is not joining", pair().join(0, 1), true);
    }

    private static void knows() {
        SumsThatTell x = new SumsThatTell();
        x.person(2, 2, 6, 1);
        x.person(1, 0, 2, 1);
        x.person(4, 4, 4, 1);
        int[][] want = {{2, 6, 5, 5}, {0, 2, 3, 3}, {4, 4, 1, 1}};
        for (int n = 0; n < 3; n++) {
            for (int what = 0; what < 4; what++) {
                due("7: at first", x.knows(0, n, what), want[n][what]);
            }
        }
        due("7: least of two", x.ask(0, LEAST, 3, 0), 1);
        due("7: the second is it", x.knows(0, 1, 3), 1);
        due("7: the first is free", x.knows(0, 0, 2), 5);
        due("7: others know nothing", x.knows(1, 1, 3), 3);
        due("7: no asker", x.knows(4, 0, 0), -1);
        due("7: no asker", x.knows(-1, 0, 0), -1);
        due("7: no number", x.knows(0, 3, 0), -1);
        due("7: no number", x.knows(0, -1, 0), -1);
        due("7: no number", x.knows(0, MAX, 0), -1);
        due("7: no what", x.knows(0, 0, 4), -1);
        due("7: no what", x.knows(0, 0, -1), -1);
        valuesWithAGap();
    }

    /** Of two numbers the greatest is 2 and the least 0: each is 0 or 2, and nothing between. */
    private static void valuesWithAGap() {
        SumsThatTell x = new SumsThatTell();
        x.person(0, 0, 2, 1);
        x.person(2, 0, 2, 1);
        due("7: the greatest", x.ask(0, GREATEST, 3, 0), 2);
        due("7: the least", x.ask(0, LEAST, 3, 0), 0);
        due("7: the sum", x.ask(0, SUM, 3, 1), 2);
        due("7: least", x.knows(0, 0, 0), 0);
        due("7: greatest", x.knows(0, 0, 1), 2);
        due("7: two unlike values", x.knows(0, 0, 2), 2);
        due("7: close by three", x.knows(0, 0, 3), 3);
        due("8: two tables", x.tables(0), 2);
    }

    private static void tables() {
        SumsThatTell x = new SumsThatTell();
        due("8: the empty one", x.tables(0), 1);
        x.person(1, 0, 4, 1);
        due("8: all at first", x.tables(0), 5);
        due("8: no asker", x.tables(4), -1);
        due("8: no asker", x.tables(-1), -1);
        due("8: no asker", x.tables(MIN), -1);
        x.ask(2, COUNT, 1, 2);
        due("8: those that agree", x.tables(2), 2);
        due("8: the others have all", x.tables(1), 5);
        x.person(1, 0, 20, 1);
        due("8: a later number", x.tables(2), 42);
        due("8: a later number", x.tables(1), 105);
        x.ask(2, SUM, 3, 1);
        due("8: sums of 2", x.tables(2), 2);
        x.person(1, 0, 20, 1);
        due("8: a later number", x.tables(2), 42);
        due("8: in all", x.count(2), 2205);
    }

    private static void broken() {
        SumsThatTell x = knownTooClosely();
        due("9: just one value", x.knows(0, 0, 3), 1);
        due("9: broken", x.broken(0), true);
        due("9: broken", x.broken(1), true);
        due("9: the others are not", x.broken(2), false);
        due("9: no asker", x.broken(4), false);
        due("9: no asker", x.broken(-1), false);
        due("4: what does not follow is refused", x.ask(0, COUNT, 2, 4), -2);
        due("4: what follows is told", x.ask(1, SUM, 1, 1), 4);
        x.change(0, 0);
        due("9: another number does not mend it", x.broken(0), true);
        SumsThatTell y = new SumsThatTell();
        y.person(5, 0, 7, 3);
        due("9: 4 or more", y.ask(0, COUNT, 1, 4), 1);
        due("9: 5 or more", y.ask(1, COUNT, 1, 5), 1);
        y.join(0, 1);
        due("9: three values", y.knows(0, 0, 3), 3);
        due("9: are just its need", y.broken(0), false);
    }

    private static void tell() {
        SumsThatTell x = pair();
        x.person(20, 18, 20, 3);
        x.change(1, 3);
        int[][] want = {{0, 0, 3, 2, 1, 2}, {1, 0, 3, 2, 0, 1}, {2, 18, 20, 3, 1, 20}, {1, 0, 3, 2, 1, 3}};
        for (int n = 0; n < 4; n++) {
            for (int what = 1; what <= 6; what++) {
                due("10: tell(" + n + ", " + what + ")", x.tell(n, what), want[n][what - 1]);
            }
            due("10: no what", x.tell(n, 7), -1);
            due("10: no what", x.tell(n, -1), -1);
        }
        due("10: the first has", x.tell(0, 0), 0);
        due("10: the second has", x.tell(1, 0), 3);
        due("10: the third has", x.tell(2, 0), 2);
        due("10: no person", x.tell(3, 0), -1);
        due("10: no person", x.tell(-1, 0), -1);
        due("10: no number", x.tell(4, 1), -1);
        due("10: no number", x.tell(-1, 6), -1);
        due("10: no number", x.tell(MAX, 3), -1);
    }

    private static void asked() {
        SumsThatTell x = pair();
        x.ask(1, SUM, -1, 4);
        x.ask(4, SUM, 3, 4);
        x.ask(3, GREATEST, 6, -77);
        x.person(0, 0, 1, 1);
        x.ask(0, COUNT, 12, 1);
        int[][] want = {{1, SUM, 3, 4, 0}, {3, GREATEST, 2, -77, -2}, {0, COUNT, 4, 1, 0}};
        for (int k = 0; k < 3; k++) {
            for (int what = 0; what < 5; what++) {
                due("11: asked(" + k + ", " + what + ")", x.asked(k, what), want[k][what]);
            }
            due("11: no what", x.asked(k, 5), -1);
            due("11: no what", x.asked(k, -1), -1);
        }
        due("11: no ask", x.asked(3, 0), -1);
        due("11: no ask", x.asked(-1, 0), -1);
        due("11: no ask", x.asked(MAX, 4), -1);
        due("11: no ask", x.asked(MIN, 4), -1);
    }

    private static void wish() {
        SumsThatTell x = pair();
        due("12: no kind", x.wish(4, 3, 1), -1);
        due("12: no kind", x.wish(-1, 3, 1), -1);
        due("12: no extra", x.wish(SUM, 3, 0), -1);
        due("12: no extra", x.wish(SUM, 3, 21), -1);
        due("12: no extra", x.wish(COUNT, 3, -1), -1);
        due("12: no extra", x.wish(COUNT, 3, 21), -1);
        due("12: none came", x.count(5), 0);
        due("12: a sum", x.wish(SUM, 3, 20), 0);
        due("12: a count", x.wish(COUNT, 3, 0), 1);
        due("12: a greatest", x.wish(GREATEST, 0, MIN), 2);
        due("12: a least", x.wish(LEAST, 0, MAX), 3);
        for (int i = 4; i < 8; i++) {
            due("12: more", x.wish(SUM, 1, 1), i);
        }
        due("12: a ninth", x.wish(SUM, 1, 1), -1);
        due("12: eight", x.count(5), 8);
        due("12: wishes are no asks", x.count(3), 0);
        SumsThatTell y = pair();
        y.wish(SUM, 7, 7);
        y.person(0, 0, 1, 2);
        due("12: who comes later is not of it, or the sum could be 7", y.together(0, 1), true);
        y.wish(SUM, 4, 1);
        due("12: but of a later one", y.together(0, 2), false);
    }

    private static void clear() {
        SumsThatTell x = pair();
        x.ask(0, SUM, 3, 4);
        x.clear();
        x.wish(SUM, 1, 1);
        x.wish(SUM, 3, 4);
        x.clear();
        due("13: no wishes", x.count(5), 0);
        due("13: none to grant", x.most(1), 0);
        due("13: none to grant", x.together(1, 1), false);
        due("13: asks stay", x.count(3), 1);
        due("13: people stay", x.count(0), 2);
        due("13: from 0 on", x.wish(SUM, 3, 4), 0);
        due("13: the new one", x.together(1, 1), true);
    }

    private static void most() {
        SumsThatTell x = pair();
        x.wish(SUM, 3, 1);
        x.wish(SUM, 3, 4);
        x.wish(COUNT, 1, 2);
        x.wish(COUNT, 2, 2);
        x.wish(SUM, 2, 2);
        due("14: the two counts, which are sums cut to 2, too", x.most(0), 28);
        due("14: no asker", x.most(4), -1);
        due("14: no asker", x.most(-1), -1);
        due("14: nothing was told", x.tables(0), 16);
        due("14: of the numbers now", x.change(1, 0), 2);
        due("14: of the numbers now", x.most(0), 28);
        SumsThatTell y = pair();
        for (int i = 0; i < 8; i++) {
            y.wish(COUNT, 1 + i % 2, 2);
        }
        due("14: all eight", y.most(2), 255);
        SumsThatTell z = pair();
        z.wish(COUNT, 1, 1);
        z.wish(COUNT, 3, 2);
        z.wish(COUNT, 1, 2);
        z.wish(SUM, 1, 2);
        due("14: without the one that would tell a 0", z.most(0), 14);
        leastBits();
        SumsThatTell broken = knownTooClosely();
        broken.wish(SUM, 0, 1);
        broken.wish(COUNT, 2, 4);
        due("14: nothing for who knows too much", broken.most(0), 0);
        due("14: but for others", broken.most(2), 3);
    }

    /** Each of three wishes can be granted, but no two; then two pairs of which no three can be. */
    private static void leastBits() {
        SumsThatTell x = new SumsThatTell();
        x.person(1, 0, 7, 3);
        x.wish(COUNT, 1, 5);
        x.wish(COUNT, 1, 4);
        x.wish(COUNT, 1, 3);
        due("14: each alone", x.together(0, 1), true);
        due("14: each alone", x.together(0, 2), true);
        due("14: each alone", x.together(0, 4), true);
        due("14: the first of one each", x.most(0), 1);
        x.wish(COUNT, 1, 4);
        due("14: the second twice", x.most(0), 10);
        x.wish(COUNT, 1, 5);
        due("14: two pairs, the one with the least bits", x.most(0), 10);
        x.wish(COUNT, 1, 3);
        due("14: three pairs", x.most(0), 10);
        x.wish(COUNT, 1, 3);
        due("14: now three alike", x.most(0), 100);
    }

    private static void together() {
        SumsThatTell x = pair();
        x.wish(COUNT, 1, 2);
        x.wish(COUNT, 3, 2);
        x.wish(SUM, 3, 4);
        x.wish(SUM, 3, 1);
        due("15: one", x.together(0, 1), true);
        due("15: two", x.together(0, 3), true);
        due("15: another", x.together(0, 4), true);
        due("15: never", x.together(0, 8), false);
        due("15: never with others", x.together(0, 9), false);
        due("15: none", x.together(0, 0), true);
        due("15: no wish", x.together(0, 16), false);
        due("15: no wish beside one", x.together(0, 17), false);
        due("15: no wishes", x.together(0, -1), false);
        due("15: no wishes", x.together(0, MIN), false);
        due("15: no asker", x.together(4, 1), false);
        due("15: no asker", x.together(-1, 0), false);
        due("15: nothing was told", x.tables(0), 16);
        SumsThatTell broken = knownTooClosely();
        broken.wish(COUNT, 0, 1);
        due("15: the empty one always", broken.together(0, 0), true);
        due("15: even what follows is too much", broken.together(0, 1), false);
        due("15: but it is granted as an ask", broken.would(0, COUNT, 0, 1), 2);
        ofNumbersNow();
    }

    /** Only the three greatest values make the greatest answer that there can be, 60. */
    private static void greatestAnswer() {
        SumsThatTell x = new SumsThatTell();
        for (int p = 0; p < 3; p++) {
            x.person(15, 15, 20, 2);
        }
        x.wish(0, 7, 20);
        x.wish(0, 7, 15);
        due("15: 60 tells all", x.together(0, 1), false);
        due("15: 60 tells all", x.together(0, 2), false);
        due("15: 60 tells all, twice", x.together(0, 3), false);
        due("15: none then", x.most(0), 0);
    }

    private static void ofNumbersNow() {
        SumsThatTell x = new SumsThatTell();
        x.person(3, 0, 3, 2);
        x.wish(COUNT, 1, 1);
        due("15: would tell a 0", x.together(0, 1), false);
        due("15: 2 or 3", x.ask(0, COUNT, 1, 2), 1);
        due("15: so that it follows", x.together(0, 1), true);
        due("14: so that it follows", x.most(0), 1);
        x.change(0, 1);
        due("15: but not of another number", x.together(0, 1), false);
        due("14: but not of another number", x.most(0), 0);
    }

    private static void count() {
        SumsThatTell x = pair();
        x.change(0, 1);
        x.ask(0, SUM, 3, 1);
        x.ask(0, SUM, 3, 4);
        x.ask(0, SUM, 3, 0);
        x.ask(2, SUM, 0, 1);
        x.wish(SUM, 3, 1);
        x.join(0, 1);
        int[] want = {2, 3, 64, 3, 1, 1, 3};
        for (int what = 0; what < want.length; what++) {
            due("16: count(" + what + ")", x.count(what), want[what]);
        }
        due("16: no what", x.count(7), -1);
        due("16: no what", x.count(-1), -1);
        due("16: no what", x.count(MIN), -1);
    }

    /** So few calls that images() makes at most the 512 that the document promises. */
    private static int[] allTold(SumsThatTell x) {
        int[] told = new int[7 + 4 * 6 + 5 * 2 + 4];
        int at = 0;
        for (int what = 0; what < 7; what++) {
            told[at++] = x.count(what);
        }
        for (int asker = 0; asker < 4; asker++) {
            told[at++] = x.tables(asker);
            told[at++] = x.most(asker);
            for (int n = 0; n < 4; n++) {
                told[at++] = x.knows(asker, n, 2);
            }
        }
        for (int k = 0; k < 5; k++) {
            told[at++] = x.tell(k, 0);
            told[at++] = x.tell(k, 6);
        }
        for (int k = 0; k < 4; k++) {
            told[at++] = x.asked(k, 4);
        }
        return told;
    }

    private static void same(String what, int[] got, int[] want) {
        due(what, java.util.Arrays.equals(got, want), true);
    }

    private static void images() {
        SumsThatTell x = pair();
        due("17: no image", x.image(3), false);
        due("17: no image", x.image(-1), false);
        due("17: no image", x.image(MIN), false);
        due("18: none yet", x.again(0), false);
        due("18: no such", x.again(3), false);
        due("18: no such", x.again(-1), false);
        x.ask(0, COUNT, 1, 2);
        x.wish(COUNT, 3, 2);
        int[] first = allTold(x);
        due("17: image 0", x.image(0), true);
        same("17: it changes nothing", allTold(x), first);
        x.ask(1, SUM, 3, 1);
        x.ask(1, COUNT, 2, 2);
        x.join(0, 1);
        x.change(1, 3);
        x.person(1, 0, 2, 2);
        x.clear();
        x.wish(GREATEST, 7, 1);
        x.wish(SUM, 7, 7);
        int[] second = allTold(x);
        due("17: image 2", x.image(2), true);
        due("18: none of 1", x.again(1), false);
        same("18: which changes nothing", allTold(x), second);
        due("18: back", x.again(0), true);
        same("18: as it was", allTold(x), first);
        due("18: joined no more", x.join(1, 0), true);
        x.ask(2, SUM, 3, 4);
        x.change(0, 0);
        due("18: other images stay", x.again(2), true);
        same("18: as it was", allTold(x), second);
        due("18: the same again", x.again(0), true);
        same("18: as it was", allTold(x), first);
        x.ask(3, SUM, 3, 4);
        int[] third = allTold(x);
        due("17: over an old one", x.image(0), true);
        x.again(2);
        due("18: the newer", x.again(0), true);
        same("18: as it was", allTold(x), third);
    }

    public static void main(String[] args) {
        newObject();
        person();
        change();
        ask();
        would();
        join();
        knows();
        tables();
        broken();
        tell();
        asked();
        wish();
        clear();
        most();
        together();
        greatestAnswer();
        count();
        images();
        System.out.println(checks + " answers, " + wrong + " not as due");
        if (wrong != 0) {
            System.exit(1);
        }
    }
}
