/** Sections 2 and 3, promises 3 to 12: the edges of a VOTE, of SEATS, of WHO SITS, of a RUN and of runs for ever. */
public final class RunEdgeTest {
    private static final int UNKNOWN = -1, OUTSIDE = -2, EVEN = -5, SHUT = -6, NONE = -9;
    private static final int YES = 1, NO = 0;
    private static final Check CHECK = new Check("RunEdgeTest");

    public static void main(String[] args) {
        wishes();
        rulesAreKept();
        agendaLengths();
        agendaTwiceOrUnknown();
        honest();
        follower();
        contrary();
        onlyThoseWhoSit();
        even();
        wonByHowMany();
        winnersSeats();
        othersSeats();
        twiceAsMany();
        evenShutsByAllMeasures();
        notPut();
        oldestSit();
        winnersSit();
        inTurn();
        turnOverAShutHall();
        decidedAndSits();
        everyRunStartsAnew();
        tailAndRing();
        sittersOrTurn();
        oftenInTheRing();
        CHECK.finish();
    }

    private static void due(String call, long got, long want) {
        CHECK.due(call, got, want);
    }

    private static WonBySeats town(String text, int measure, int law) {
        return Calls.rules(Calls.ofTown(text), measure, law);
    }

    private static void dueVote(WonBySeats x, int q, int... want) {
        for (int what = 0; what < 5; what++) {
            due("vote(" + q + ", " + what + ")", x.vote(q, what), want[what]);
        }
    }

    private static void dueSaid(String text, int said) {
        due("who says yes by " + text, Calls.ofTown(text).vote(0, 2), said);
    }

    // ---- 1 the town

    private static void wishes() {
        CHECK.at("a ONE WISHES yes in a MATTER (true), or no: 1; 0: it did so");
        WonBySeats x = Calls.ofTown("m6" + ";hyyyyyn".repeat(8));
        due("the last one in the last matter", x.wish(7, 5, true), 1);
        due("it did so", x.wish(7, 5, true), 0);
        due("one beyond", x.wish(8, 5, true), UNKNOWN);
        due("a matter beyond", x.wish(7, 6, true), UNKNOWN);
        due("the first one in the first matter", x.wish(0, 0, false), 1);
        due("it did so", x.wish(0, 0, false), 0);
        for (int one = 0; one < 8; one++) {
            for (int m = 0; m < 6; m++) {
                boolean yes = m < 5 ? one + m > 0 : one == 7;
                due("ofOne(" + one + ", " + m + ")", x.ofOne(one, m), yes ? 1 : 0);
            }
        }
        due("the vote goes by it", x.vote(0, 2), 254);
    }

    private static void rulesAreKept() {
        CHECK.at("MEASURE, LAW become v: what it was");
        WonBySeats x = Calls.ofTown("m1;hy;hy");
        for (int v = 1; v <= 4; v++) {
            due("measure(" + v % 4 + ")", x.measure(v % 4), v - 1);
        }
        for (int v = 1; v <= 3; v++) {
            due("law(" + v % 3 + ")", x.law(v % 3), v - 1);
        }
        due("the same again", x.law(0), 0);
        x.law(2);
        x.measure(3);
        due("law is not measure", x.many(3), 2);
        due("measure is not law", x.many(2), 3);
    }

    private static void agendaLengths() {
        CHECK.at("a row of 1 to 6 MATTERS");
        WonBySeats x = Calls.ofTown("m6;hyyyyyy;hnnnnnn");
        int[] row = {5, 3, 0, 4, 1, 2, 6, 0};
        Calls.row(x, 0, row);
        for (int n = 0; n <= 7; n++) {
            due("agenda of " + n, x.agenda(0, 2, 0, n), n < 1 || n > 6 ? OUTSIDE : n);
            int now = Math.min(n == 0 ? 6 : n, 6);
            due("matters on it", x.many(4), now);
            due("its last", x.vote(now - 1, 0), n == 0 ? 5 : row[now - 1]);
            due("none behind", x.vote(now, 0), UNKNOWN);
        }
        Calls.town(x, "m2;hyy;hyy");
        due("six of two: told twice", Calls.agenda(x, 0, 1, 0, 1, 0, 1), OUTSIDE);
        due("three of two", Calls.agenda(x, 0, 1, 2), UNKNOWN);
    }

    private static void agendaTwiceOrUnknown() {
        CHECK.at("UNKNOWN: a MATTER; OUTSIDE: one is told twice");
        WonBySeats x = Calls.ofTown("m3;hyyy;hyyy");
        int[][] rows = {{0, 0}, {2, 1, 2}, {1, 2, 2}, {1, 1, 0}, {0, 0, 3}, {3, 0, 0}, {0, -1}, {3}, {-1}, {3, 3}};
        int[] want = {OUTSIDE, OUTSIDE, OUTSIDE, OUTSIDE, UNKNOWN, UNKNOWN, UNKNOWN, UNKNOWN, UNKNOWN, UNKNOWN};
        for (int r = 0; r < rows.length; r++) {
            due("agenda " + java.util.Arrays.toString(rows[r]), Calls.agenda(x, rows[r]), want[r]);
            due("it is as it was", x.many(4), 3);
            due("its last", x.vote(2, 0), 2);
        }
        due("far above", Calls.agenda(x, 32), UNKNOWN);
        due("far below", Calls.agenda(x, Integer.MIN_VALUE), UNKNOWN);
        x.sheet(0, 0, 1);
        x.put(0, 0, 257);
        due("257 is cut to 1", x.agenda(0, 0, 0, 1), 1);
        due("matter 1", x.vote(0, 0), 1);
        due("without a town, of no cells", Scene.SHEETS.make().agenda(1, 1, 0, 0), WonBySeats.STATE);
    }

    // ---- 2 a vote

    private static void honest() {
        CHECK.at("an HONEST one says what it WISHES");
        dueSaid("m1;hy;hy;hn;hy", 11);
        dueSaid("m1;hn;hn;hy", 4);
    }

    private static void follower() {
        CHECK.at("a FOLLOWER what more of those ahead have said");
        dueSaid("m1;hy;fn", 3);
        dueSaid("m1;hn;fy", 0);
        dueSaid("m1;hy;hy;hn;fn", 11);
        CHECK.at("(as it WISHES, if as many said yes as no, or nobody is ahead)");
        dueSaid("m1;hy;hn;fy", 5);
        dueSaid("m1;hy;hn;fn", 1);
        dueSaid("m1;fy;hn;hn", 1);
        dueSaid("m1;fn;hy;hy", 6);
        CHECK.at("have said, not wished");
        dueSaid("m1;hy;cy;fn", 1);
        dueSaid("m1;hy;fn;fn;hn;hn;fn", 39);
    }

    private static void contrary() {
        CHECK.at("a CONTRARY one the other thing than that more of those ahead have said");
        dueSaid("m1;hy;cy", 1);
        dueSaid("m1;hn;cn", 2);
        dueSaid("m1;hy;hy;hn;cy", 3);
        CHECK.at("(as it WISHES, if as many)");
        dueSaid("m1;hy;hn;cy", 5);
        dueSaid("m1;hy;hn;cn", 1);
        dueSaid("m1;cy;hn", 1);
        dueSaid("m1;cn;hn", 0);
        dueSaid("m1;cy;cy;cy;cy;cy;cy;cy;cy", 85);
    }

    private static void onlyThoseWhoSit() {
        CHECK.at("those who SIT say yes or no");
        WonBySeats x = town("m3;hyyy;fynn;hnnn", 0, 2);
        dueVote(x, 0, 0, 7, 3, YES, 1);
        dueVote(x, 1, 1, 1, 1, YES, 1);
        // the follower sits alone: the oldest, who wishes yes, is not ahead of it
        dueVote(x, 2, 2, 2, 0, NO, 1);
        due("and then the youngest", x.sits(), 4);
    }

    private static void even() {
        CHECK.at("WON: what more have said; EVEN: as many said both");
        for (int yes = 0; yes <= 8; yes++) {
            WonBySeats x = Calls.ofTown("m1" + ";hy".repeat(yes) + ";hn".repeat(8 - yes));
            due(yes + " of 8", x.vote(0, 3), yes > 4 ? YES : yes < 4 ? NO : EVEN);
            due("decided", x.decided(0), x.vote(0, 3));
        }
    }

    private static void dueSeats(int measure, int people, int yes, int seats) {
        WonBySeats x = town("m1" + ";hy".repeat(yes) + ";hn".repeat(people - yes), measure, 0);
        String name = yes + " of " + people;
        due("seats by " + name, x.vote(0, 4), seats);
        due("who sits by " + name, x.sits(), seats == 0 ? SHUT : (1 << seats) - 1);
    }

    private static void wonByHowMany() {
        CHECK.at("SEATS by MEASURE: 0 by how many more it was WON");
        dueSeats(0, 8, 8, 8);
        dueSeats(0, 8, 5, 2);
        dueSeats(0, 8, 3, 2);
        dueSeats(0, 7, 4, 1);
        dueSeats(0, 7, 3, 1);
        dueSeats(0, 2, 0, 2);
        dueSeats(0, 2, 1, 0);
    }

    private static void winnersSeats() {
        CHECK.at("1 how many said what WON");
        dueSeats(1, 8, 8, 8);
        dueSeats(1, 8, 5, 5);
        dueSeats(1, 8, 3, 5);
        dueSeats(1, 3, 2, 2);
        dueSeats(1, 8, 0, 8);
        dueSeats(1, 8, 4, 0);
    }

    private static void othersSeats() {
        CHECK.at("2 how many said the other thing (SEATS would be 0: SHUT)");
        dueSeats(2, 8, 7, 1);
        dueSeats(2, 8, 5, 3);
        dueSeats(2, 8, 1, 1);
        dueSeats(2, 8, 8, 0);
        dueSeats(2, 8, 0, 0);
        dueSeats(2, 8, 4, 0);
        WonBySeats x = town("m2;hyy;hyy;hny", 2, 0);
        dueVote(x, 0, 0, 7, 3, YES, 1);
        dueVote(x, 1, 1, 1, 1, YES, 0);
        due("one alone has nobody against it", x.sits(), SHUT);
    }

    private static void twiceAsMany() {
        CHECK.at("3 twice as many as by 0; no more than PEOPLE");
        dueSeats(3, 8, 8, 8);
        dueSeats(3, 8, 7, 8);
        dueSeats(3, 8, 6, 8);
        dueSeats(3, 8, 5, 4);
        dueSeats(3, 8, 4, 0);
        dueSeats(3, 7, 5, 6);
        dueSeats(3, 7, 6, 7);
        dueSeats(3, 7, 2, 6);
        dueSeats(3, 7, 1, 7);
        dueSeats(3, 2, 2, 2);
        WonBySeats x = town("m2;hyy;hyy;hyy;hny;hny", 3, 0);
        dueVote(x, 1, 1, 3, 3, YES, 4);
        due("more than sat", x.sits(), 15);
    }

    private static void evenShutsByAllMeasures() {
        CHECK.at("if it was EVEN the hall is SHUT");
        for (int rule = 0; rule < 12; rule++) {
            WonBySeats x = town("m3;hyyn;hnyn;hynn;hnnn", rule / 3, rule % 3);
            dueVote(x, 0, 0, 15, 5, EVEN, 0);
            dueVote(x, 1, 1, 0, 0, SHUT, 4);
            due("all sit for the third", x.vote(2, 1), 15);
            due("by which no is said", x.vote(2, 2), 0);
        }
    }

    private static void notPut() {
        CHECK.at("the next MATTER of the AGENDA is not put to the vote; behind it all SIT");
        WonBySeats x = Calls.ofTown("m6;hyyyyyy;hnnnnnn;hyyyyyy;hnnnnnn");
        for (int q = 0; q < 6; q += 2) {
            dueVote(x, q, q, 15, 5, EVEN, 0);
            dueVote(x, q + 1, q + 1, 0, 0, SHUT, 4);
        }
        due("all sit behind a last one that is not put", x.sits(), 15);
        Calls.agenda(x, 5, 4, 3, 2, 1);
        dueVote(x, 3, 2, 0, 0, SHUT, 4);
        dueVote(x, 4, 1, 15, 5, EVEN, 0);
        due("shut behind a last one that is even", x.sits(), SHUT);
        CHECK.at("the next MATTER alone");
        x = town("m4;hyyyy;hyyyn;hyyny", 2, 1);
        dueVote(x, 0, 0, 7, 7, YES, 0);
        dueVote(x, 1, 1, 0, 0, SHUT, 3);
        dueVote(x, 2, 2, 7, 3, YES, 1);
        dueVote(x, 3, 3, 1, 1, YES, 0);
        due("shut", x.sits(), SHUT);
    }

    private static void oldestSit() {
        CHECK.at("WHO SITS by LAW: 0 the oldest");
        WonBySeats x = town("m3;hnny;hyny;hyyn;hyyn;hyyn", 0, 0);
        dueVote(x, 0, 0, 31, 30, YES, 3);
        dueVote(x, 1, 1, 7, 4, NO, 1);
        dueVote(x, 2, 2, 1, 1, YES, 1);
        due("whoever won", x.sits(), 1);
    }

    private static void winnersSit() {
        CHECK.at("1 those who said what WON, by age");
        WonBySeats x = town("m1;hn;hy;hn;hy;hn;hy;hy;hy", 0, 1);
        due("two of five", x.sits(), 10);
        x.measure(1);
        due("all five", x.sits(), 234);
        x = town("m1;hy;hn;hy;hn;hy;hn;hn;hn", 0, 1);
        due("those who said no", x.sits(), 10);
        CHECK.at("then the others who had a seat, by age");
        x = town("m1;hn;hy;hy;hn;hy;hy;hy", 3, 1);
        due("five, and one of two", x.sits(), 119);
        CHECK.at("then all others, by age");
        x = town("m2;hnn;hnn;hnn;hyy;hyy;hyn;hyn", 3, 1);
        dueVote(x, 0, 0, 127, 120, YES, 2);
        dueVote(x, 1, 1, 24, 24, YES, 4);
        due("both who sat, and the oldest two", x.sits(), 27);
        CHECK.at("the others who had a seat ahead of all others");
        // four of five winners sit; three of them win, the fourth has a seat ahead of the oldest
        x = town("m2;hny;hny;hny;hyy;hyy;hyn;hyy;hyy", 3, 1);
        dueVote(x, 0, 0, 255, 248, YES, 4);
        dueVote(x, 1, 1, 120, 88, YES, 4);
        due("the same four", x.sits(), 120);
    }

    private static void inTurn() {
        CHECK.at("2 from the one on who comes behind the last one that got a seat (the last one by number, at first)");
        WonBySeats x = town("m6;hyyyyyy;hyyyyyy;hnyyyyy", 0, 2);
        int[] sitting = {7, 1, 2, 4, 1, 2};
        for (int q = 0; q < 6; q++) {
            due("who sits, one by one: " + q, x.vote(q, 1), sitting[q]);
        }
        due("behind", x.sits(), 4);
        CHECK.at("round");
        x = town("m6;hyyyyyy;hyyyyyy;hnyyyyy", 1, 2);
        sitting = new int[] {7, 3, 5, 6, 3, 5};
        for (int q = 0; q < 6; q++) {
            due("who sits, two by two: " + q, x.vote(q, 1), sitting[q]);
        }
        due("behind", x.sits(), 6);
        CHECK.at("round, as many as there are");
        // two seats to 0 and 1; both agree: four to 2, 3, 4, 0; they agree: five, from 1 on
        x = town("m4;hyyyy;hyyyy;hyyyn;hnyyn;hnyyy", 3, 2);
        sitting = new int[] {31, 3, 29, 31};
        for (int q = 0; q < 4; q++) {
            due("who sits: " + q, x.vote(q, 1), sitting[q]);
        }
        due("two from 1 on, as the last of five was 0", x.sits(), 6);
    }

    private static void turnOverAShutHall() {
        CHECK.at("the last one that got a seat, also behind a SHUT hall");
        // one seat to 0, who says yes: one to 1, ... ; by measure 1 two: 0 and 1 are even, all sit, then 2 and 0
        WonBySeats x = town("m5;hyyyyy;hynyyy;hnyyny", 1, 2);
        dueVote(x, 0, 0, 7, 3, YES, 2);
        dueVote(x, 1, 1, 3, 1, EVEN, 0);
        dueVote(x, 2, 2, 0, 0, SHUT, 3);
        dueVote(x, 3, 3, 7, 3, YES, 2);
        dueVote(x, 4, 4, 5, 5, YES, 2);
        due("then 1 and 2", x.sits(), 6);
    }

    private static void decidedAndSits() {
        CHECK.at("what is decided in a MATTER in the RUN; NONE: it is not on the AGENDA");
        WonBySeats x = Calls.ofTown("m6;hyyyyyn;hynyyyn");
        Calls.agenda(x, 1, 0, 5, 2);
        int[] want = {SHUT, EVEN, YES, NONE, NONE, NO};
        for (int m = 0; m < 6; m++) {
            due("decided(" + m + ")", x.decided(m), want[m]);
        }
        due("decided(6)", x.decided(6), UNKNOWN);
        due("all sit", x.sits(), 3);
        Calls.agenda(x, 3);
        due("the only one", x.decided(3), YES);
        due("no longer on it", x.decided(1), NONE);
    }

    private static void everyRunStartsAnew() {
        CHECK.at("a RUN: at first all SIT");
        WonBySeats x = town("m2;hyn;hyy;hnn", 1, 2);
        for (int again = 0; again < 3; again++) {
            due("who sits at first", x.vote(0, 1), 7);
            due("then 0 and 1", x.vote(1, 1), 3);
            due("shut", x.sits(), SHUT);
            x.ever(0);
            x.often(0);
            x.sway(3, 1);
            x.key(0);
            x.lot(0);
            x.safe();
            x.orders(1, -1);
            Calls.fits(x, 2, 0);
        }
        due("the rules are as they were", 10 * x.many(2) + x.many(3), 12);
    }

    // ---- 3 ever

    private static void dueEver(String text, int measure, int law, int tail, int ring) {
        WonBySeats x = town(text, measure, law);
        String name = " of " + text + " by measure " + measure + ", law " + law;
        due("tail" + name, x.ever(0), tail);
        due("ring" + name, x.ever(1), ring);
    }

    private static void tailAndRing() {
        CHECK.at("TAIL: how many RUNS till it begins as it will again for ever; RING: in how many");
        dueEver("m1;hy;hy", 0, 0, 0, 1);
        dueEver("m1;hy;hy;hn", 0, 0, 1, 1);
        // three sit, then two, who are even: shut; then all again
        dueEver("m1;hy;hn;hy", 1, 0, 0, 3);
        dueEver("m1;hy;hn", 0, 0, 0, 2);
        // five: three oldest (4 against 1), then one, who stays
        dueEver("m1;hy;hy;hn;hy;hy", 0, 0, 2, 1);
        CHECK.at("those who SIT (nobody, if SHUT) going on from one to the next");
        // even in the last one: the next runs begin with one that is not put
        WonBySeats x = Calls.ofTown("m2;hyy;hyn");
        due("tail", x.ever(0), 1);
        due("ring", x.ever(1), 1);
        due("won in the first run alone", x.decided(0), YES);
        due("not put in the ring", x.often(0), 0);
        due("even in the ring", x.often(1), 0);
        // 4 to 0: shut; not put; even: shut. Then not put; 3 to 1: the oldest alone says yes: shut
        x = town("m3;hyyy;hyyn;hyyn;hyny", 2, 0);
        due("tail", x.ever(0), 1);
        due("ring", x.ever(1), 1);
        int[] first = {YES, SHUT, EVEN};
        int[] often = {0, 1, 1};
        for (int m = 0; m < 3; m++) {
            due("decided in the first run: " + m, x.decided(m), first[m]);
            due("often in the ring: " + m, x.often(m), often[m]);
        }
    }

    private static void sittersOrTurn() {
        CHECK.at("by LAW 2 also who got the last seat");
        // one after another, seven of them, behind the first run
        dueEver("m1;hy;hy;hy;hy;hn;hn;hn", 0, 2, 1, 7);
        // all sit behind a shut hall, but the turn is another one
        dueEver("m1;hy;hy;hn", 1, 2, 0, 7);
        // of eight: all by one turn, nobody by another, and so on
        dueEver("m1;hn;hn;hn;hn;hy;hy;hy;hn", 2, 2, 9, 8);
        CHECK.at("by LAWS 0 and 1 who SITS alone");
        dueEver("m1;hy;hy;hn", 1, 0, 1, 1);
        dueEver("m1;hy;hn;hy", 1, 1, 1, 1);
        dueEver("m1;hn;hy;hy", 0, 1, 1, 1);
    }

    private static void oftenInTheRing() {
        CHECK.at("OFTEN: in how many RUNS of the RING a MATTER is WON by yes");
        WonBySeats x = Calls.ofTown("m1;hn;hy;hy");
        due("yes in the first run", x.decided(0), YES);
        due("which is the tail", x.ever(0), 1);
        due("never in the ring", x.often(0), 0);
        x.law(2);
        due("three one after another", x.ever(1), 3);
        due("two of them say yes", x.often(0), 2);
        x = Calls.ofTown("m6;hyyyyyy;hyyyyyy");
        due("the last matter, always", x.often(5), 1);
        due("a matter beyond", x.often(6), UNKNOWN);
        Calls.agenda(x, 4);
        due("one that is not on the agenda", x.often(5), 0);
        due("won by no", Calls.ofTown("m1;hn;hn").often(0), 0);
    }
}
