/** Promises 11 to 17: today, then, over, most, soonest, home, tell. */
public final class HowFarTest {
    private static final Check C = new Check();

    public static void main(String[] args) {
        today();
        then();
        over();
        most();
        soonest();
        home();
        tell();
        tellFirstWay();
        C.end();
    }

    private static GriefEngine one(int kind, int grief, int daysBefore) {
        GriefEngine e = new GriefEngine();
        for (int d = 0; d < daysBefore; d++) {
            e.days(1, 2);
        }
        e.driver(kind, grief);
        return e;
    }

    private static void today() {
        GriefEngine e = one(4, 45, 0);
        C.only("today(0, -1) in winter", e, x -> x.today(0, -1), 45);
        C.only("today(0, 0)", e, x -> x.today(0, 0), 41);
        C.only("today(0, 1)", e, x -> x.today(0, 1), 53);
        C.only("today(0, 2)", e, x -> x.today(0, 2), 42);
        C.only("today(0, -1) in spring", one(4, 45, 20), x -> x.today(0, -1), 90);
        C.only("a spring one in spring", one(3, 45, 39), x -> x.today(0, -1), 0);
        C.only("a spring one in summer", one(3, 45, 40), x -> x.today(0, -1), 90);
        C.only("a sham told at 99", one(2, 99, 0), x -> x.today(0, 1), 51);
        C.only("a teller told at 95", one(4, 95, 0), x -> x.today(0, 1), 99);
        C.only("a teller rests at 2", one(4, 2, 0), x -> x.today(0, 2), 0);
        C.only("an old one of 15 in autumn", one(5, 15, 60), x -> x.today(0, -1), 30);
        C.only("an old one of 14 in autumn", one(5, 14, 60), x -> x.today(0, -1), 28);
        C.refused("today(0, -2)", e, x -> x.today(0, -2), -2, 0);
        C.refused("today(0, 3)", e, x -> x.today(0, 3), -2, 0);
        C.refused("today(1, 0)", e, x -> x.today(1, 0), -2, 0);
        C.refused("today(-1, 0)", e, x -> x.today(-1, 0), -2, 0);
    }

    private static void then() {
        GriefEngine e = one(0, 20, 18);
        C.only("then(0, 0, 0, 0)", e, x -> x.then(0, 0, 0, 0), 20);
        C.only("then(0, 0, 0, 1)", e, x -> x.then(0, 0, 0, 1), 0);
        // 20, 17 in winter, then 30, 26 in spring; grief 20, 17, 15, 13, 11
        C.only("then(0, 2, 0, 1)", e, x -> x.then(0, 2, 0, 1), 37);
        C.only("then(0, 4, 0, 1)", e, x -> x.then(0, 4, 0, 1), 93);
        C.only("then(0, 4, 0, 0)", e, x -> x.then(0, 4, 0, 0), 11);
        C.only("then(0, 99, 1, 0)", e, x -> x.then(0, 99, 1, 0), 99);
        C.only("then(0, 19, 1, 0)", e, x -> x.then(0, 19, 1, 0), 96);
        C.only("then(0, 7, 2, 0)", e, x -> x.then(0, 7, 2, 0), 13);
        e.days(2, 0);
        C.only("then: miles gone count", e, x -> x.then(0, 2, 0, 1), 93);
        C.only("then: miles by telling", e, x -> x.then(0, 9, 1, 1), 37);
        C.refused("then(0, -1, 0, 0)", e, x -> x.then(0, -1, 0, 0), -2, 0);
        C.refused("then(0, 100, 0, 0)", e, x -> x.then(0, 100, 0, 0), -2, 0);
        C.refused("then(0, 1, 3, 0)", e, x -> x.then(0, 1, 3, 0), -2, 0);
        C.refused("then(0, 1, -1, 0)", e, x -> x.then(0, 1, -1, 0), -2, 0);
        C.refused("then(0, 1, 0, 2)", e, x -> x.then(0, 1, 0, 2), -2, 0);
        C.refused("then(0, 1, 0, -1)", e, x -> x.then(0, 1, 0, -1), -2, 0);
        C.refused("then(1, 1, 0, 0)", e, x -> x.then(1, 1, 0, 0), -2, 0);
    }

    private static void over() {
        C.only("over at 0", one(0, 0, 0), x -> x.over(0), 0);
        C.only("over at 1", one(0, 1, 0), x -> x.over(0), 1);
        // 20, 17, 15, 13, 11, 9, and nine more
        C.only("over at 20", one(0, 20, 0), x -> x.over(0), 14);
        C.only("over of a keeper", one(1, 20, 0), x -> x.over(0), -1);
        C.only("over of a keeper at 0", one(1, 0, 0), x -> x.over(0), 0);
        C.only("over of a teller", one(4, 99, 0), x -> x.over(0), -1);
        GriefEngine e = one(0, 20, 0);
        C.refused("over(1)", e, x -> x.over(1), -2, 0);
        C.refused("over(-1)", e, x -> x.over(-1), -2, 0);
    }

    private static void most() {
        GriefEngine e = one(0, 0, 0);
        // By nothing at all: told twice and driven once 8, told once and driven twice 4 + 3.
        C.only("most(0, 3, -1)", e, x -> x.most(0, 3, -1), 8);
        C.only("most(0, 3, 0)", e, x -> x.most(0, 3, 0), 1);
        C.only("most(0, 3, 1)", e, x -> x.most(0, 3, 1), 1);
        C.only("most(0, 3, 2)", e, x -> x.most(0, 3, 2), 0);
        C.only("most(0, 3, 3): not so many", e, x -> x.most(0, 3, 3), -5);
        C.only("most(0, 3, 999999): not so many", e, x -> x.most(0, 3, 999999), -5);
        // A spring one with one day of winter to go: it drives, then waits by what is first.
        GriefEngine f = one(3, 50, 19);
        C.only("most over winter's end", f, x -> x.most(0, 7, -1), 50);
        C.only("its first day", f, x -> x.most(0, 7, 0), 0);
        C.only("its last day", f, x -> x.most(0, 7, 6), 0);
        // One day of winter ahead of spring: it drives on both, or tells first: 10 + 16 or 28.
        GriefEngine g = one(0, 10, 19);
        C.only("most by waiting for spring", g, x -> x.most(0, 2, -1), 28);
        C.only("its first day", g, x -> x.most(0, 2, 0), 1);
        C.only("its second day", g, x -> x.most(0, 2, 1), 0);
        C.refused("most(0, 0, 0)", e, x -> x.most(0, 0, 0), -10, 0);
        C.refused("most(0, 8, 0)", e, x -> x.most(0, 8, 0), -10, 0);
        C.refused("most(0, 8, 9): bad ahead of not so many", e, x -> x.most(0, 8, 9), -10, 0);
        C.refused("most(0, 1, -2)", e, x -> x.most(0, 1, -2), -10, 0);
        C.refused("most(1, 1, 0)", e, x -> x.most(1, 1, 0), -10, 0);
        C.refused("most(-1, 1, 0)", e, x -> x.most(-1, 1, 0), -10, 0);
    }

    private static void soonest() {
        GriefEngine e = one(0, 20, 0);
        C.only("soonest(0, 1)", e, x -> x.soonest(0, 1), 1);
        C.only("soonest(0, 20)", e, x -> x.soonest(0, 20), 1);
        C.only("soonest(0, 21)", e, x -> x.soonest(0, 21), 2);
        C.only("soonest(0, 37)", e, x -> x.soonest(0, 37), 2);
        C.only("soonest(0, 38)", e, x -> x.soonest(0, 38), 3);
        C.only("soonest(0, 999)", e, x -> x.soonest(0, 999), -1);
        e.days(1, 0);
        C.only("soonest: miles gone don't count", e, x -> x.soonest(0, 20), 2);
        int most = e.most(0, 7, -1);
        C.only("soonest by all seven", e, x -> x.soonest(0, most), 7);
        C.only("soonest by more", e, x -> x.soonest(0, most + 1), -1);
        C.refused("soonest(0, 0)", e, x -> x.soonest(0, 0), -2, 0);
        C.refused("soonest(0, 1000)", e, x -> x.soonest(0, 1000), -2, 0);
        C.refused("soonest(1, 1)", e, x -> x.soonest(1, 1), -2, 0);
        C.refused("soonest(-1, 1)", e, x -> x.soonest(-1, 1), -2, 0);
    }

    private static void home() {
        GriefEngine e = one(0, 20, 0);
        C.only("home(0, 2, 0)", e, x -> x.home(0, 2, 0), 17);
        C.only("home(0, 2, 1)", e, x -> x.home(0, 2, 1), 1);
        // Three days: out 20 and back 17 + 15, or told first, 24, and back 21.
        C.only("home(0, 3, 0)", e, x -> x.home(0, 3, 0), 21);
        C.only("home(0, 3, 1)", e, x -> x.home(0, 3, 1), 2);
        GriefEngine f = one(3, 20, 20);
        C.only("home of none to go", f, x -> x.home(0, 7, 0), 0);
        C.only("home of none to go: the least t", f, x -> x.home(0, 7, 1), 1);
        C.refused("home(0, 1, 0)", e, x -> x.home(0, 1, 0), -2, 0);
        C.refused("home(0, 8, 0)", e, x -> x.home(0, 8, 0), -2, 0);
        C.refused("home(0, 2, 2)", e, x -> x.home(0, 2, 2), -2, 0);
        C.refused("home(0, 2, -1)", e, x -> x.home(0, 2, -1), -2, 0);
        C.refused("home(1, 2, 0)", e, x -> x.home(1, 2, 0), -2, 0);
        C.refused("home(-1, 2, 0)", e, x -> x.home(-1, 2, 0), -2, 0);
    }

    private static void tell() {
        GriefEngine e = new GriefEngine();
        C.only("tell(-1) of none", e, x -> x.tell(-1), 0);
        C.refused("tell(0) of none", e, x -> x.tell(0), -10, 0);
        e.driver(0, 50);
        C.only("tell(-1) of one", e, x -> x.tell(-1), 0);
        C.only("tell(0) of one", e, x -> x.tell(0), -1);
        e.driver(0, 10);
        C.only("tell(-1) of like kinds", e, x -> x.tell(-1), 10);
        e.driver(1, 60);
        C.only("tell(-1) of three", e, x -> x.tell(-1), 51);
        C.only("tell(0) of three", e, x -> x.tell(0), 2);
        C.only("tell(1) of three", e, x -> x.tell(1), -1);
        C.only("tell(2) of three", e, x -> x.tell(2), 0);
        C.refused("tell(3)", e, x -> x.tell(3), -10, 0);
        C.refused("tell(-2)", e, x -> x.tell(-2), -10, 0);
    }

    private static void tellFirstWay() {
        GriefEngine like = new GriefEngine();
        for (int k = 0; k < 5; k++) {
            like.driver(0, 0);
        }
        int[] due = {1, 0, 3, 2, -1};
        for (int k = 0; k < 5; k++) {
            int i = k;
            C.only("tell(" + i + ") of five of nothing", like, x -> x.tell(i), due[i]);
        }
        // 0 with 1 is worth 5; 0 with 2 and 1 with 3 are worth 5 and 6: unlike kinds tell.
        GriefEngine e = new GriefEngine();
        e.driver(0, 5);
        e.driver(0, 5);
        e.driver(1, 5);
        e.driver(1, 5);
        C.only("tell(-1) of unlike kinds", e, x -> x.tell(-1), 12);
        C.only("tell(0)", e, x -> x.tell(0), 2);
        C.only("tell(1)", e, x -> x.tell(1), 3);
    }
}
