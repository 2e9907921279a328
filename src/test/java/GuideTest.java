import java.util.Random;

/** Promises 12 and 13 and section 4 of the terms; each PLAN is held against all that there are. */
public final class GuideTest {
    private static final Check CHECK = new Check("GuideTest");

    public static void main(String[] args) {
        nothingYet();
        equalOnes();
        seatsAreNotSeatsLeft();
        latestPlan();
        tonguesAtTheirEdges();
        moreToursThanGuides();
        moreGuidesThanTours();
        noGuideSpeaksIt();
        noneIsTheLast();
        begunToursAndLaterCalls();
        againstAllPlans();
        CHECK.end();
    }

    private static void nothingYet() {
        ShoreDay day = new ShoreDay();
        CHECK.same("no tour, no guide", day.plan(), 0);
        day.guide(255);
        CHECK.same("no tour", day.plan(), 0);
        CHECK.same("none such", day.planned(0), -1);
        CHECK.same("none such", day.planned(-1), -1);
        CHECK.same("none such", day.planned(8), -1);
        CHECK.same("none such", day.planned(Integer.MIN_VALUE), -1);
        CHECK.same("none such", day.planned(Integer.MAX_VALUE), -1);
        day.tour(5, 5, 50, 7);
        CHECK.same("planned ahead of it", day.planned(0), -1);
        CHECK.same("the plan", day.plan(), 50);
        CHECK.same("its guide", day.planned(0), 0);
    }

    private static void equalOnes() {
        ShoreDay day = new ShoreDay();
        day.tour(5, 5, 10, 0);
        day.tour(5, 5, 10, 0);
        day.tour(5, 5, 10, 0);
        day.guide(1);
        day.guide(3);
        CHECK.same("two of three", day.plan(), 20);
        CHECK.same("tour 0 has the least", day.planned(0), 0);
        CHECK.same("tour 1 the next", day.planned(1), 1);
        CHECK.same("none is the last", day.planned(2), -1);
        ShoreDay other = new ShoreDay();
        other.tour(5, 5, 10, 0);
        other.tour(5, 5, 10, 1);
        other.guide(3);
        other.guide(1);
        CHECK.same("both", other.plan(), 20);
        CHECK.same("tour 0 leaves the one who speaks both", other.planned(0), 1);
        CHECK.same("tour 1 has it", other.planned(1), 0);
    }

    private static void seatsAreNotSeatsLeft() {
        ShoreDay day = new ShoreDay();
        day.ship(1, 700, 0);
        day.tender(0, 50);
        day.tour(3, 5, 50, 0);
        day.group(0, 45, 0, 0, 0, 0);
        day.guide(1);
        day.minutes(10);
        CHECK.same("45 rode", day.rides(0, 0), 45);
        CHECK.same("all the seats", day.plan(), 50);
    }

    private static void latestPlan() {
        ShoreDay day = new ShoreDay();
        day.tour(5, 5, 10, 0);
        day.guide(1);
        CHECK.same("no plan yet", day.planned(0), -1);
        day.plan();
        CHECK.same("planned", day.planned(0), 0);
        day.tour(5, 5, 20, 0);
        CHECK.same("as planned", day.planned(0), 0);
        CHECK.same("planned ahead of it", day.planned(1), -1);
        CHECK.same("the new plan", day.plan(), 20);
        CHECK.same("lost its guide", day.planned(0), -1);
        CHECK.same("has it", day.planned(1), 0);
        day.guide(1);
        CHECK.same("a guide more changes no plan", day.planned(0), -1);
        CHECK.same("the next one does", day.plan(), 30);
    }

    /** The lowest and the highest of the 8 bits; one beside it is another tongue. */
    private static void tonguesAtTheirEdges() {
        for (int tongue = 0; tongue < 8; tongue++) {
            for (int tongues : new int[] {1, 2, 64, 128, 127, 254, 255}) {
                ShoreDay day = new ShoreDay();
                day.tour(5, 5, 50, tongue);
                day.guide(tongues);
                boolean speaks = (tongues >> tongue & 1) == 1;
                CHECK.same("tongue " + tongue + " of " + tongues, day.plan(), speaks ? 50 : 0);
                CHECK.same("its guide", day.planned(0), speaks ? 0 : -1);
            }
        }
    }

    /** 8 TOURS and 6 GUIDES, the most of each: the two with the fewest seats have none. */
    private static void moreToursThanGuides() {
        ShoreDay day = new ShoreDay();
        int[] seats = {200, 1, 199, 198, 2, 197, 196, 195};
        int[] due = {0, -1, 1, 2, -1, 3, 4, 5};
        for (int i = 0; i < 8; i++) {
            day.tour(5, 5, seats[i], i);
        }
        for (int i = 0; i < 6; i++) {
            day.guide(255);
        }
        CHECK.same("the seats", day.plan(), 1185);
        for (int i = 0; i < 8; i++) {
            CHECK.same("tour " + i, day.planned(i), due[i]);
        }
        ShoreDay most = new ShoreDay();
        for (int i = 0; i < 8; i++) {
            most.tour(5, 5, 200, 7);
        }
        for (int i = 0; i < 6; i++) {
            most.guide(128);
        }
        CHECK.same("the most seats that can be", most.plan(), 1200);
        for (int i = 0; i < 8; i++) {
            CHECK.same("tour " + i, most.planned(i), i < 6 ? i : -1);
        }
    }

    private static void moreGuidesThanTours() {
        ShoreDay day = new ShoreDay();
        for (int i = 0; i < 5; i++) {
            day.guide(1);
        }
        day.guide(3);
        day.tour(5, 5, 1, 1);
        CHECK.same("one seat", day.plan(), 1);
        CHECK.same("the last guide", day.planned(0), 5);
        day.tour(5, 5, 1, 0);
        CHECK.same("two seats", day.plan(), 2);
        CHECK.same("the last guide", day.planned(0), 5);
        CHECK.same("the first guide", day.planned(1), 0);
    }

    private static void noGuideSpeaksIt() {
        ShoreDay day = new ShoreDay();
        day.tour(5, 5, 200, 3);
        day.tour(5, 5, 1, 4);
        day.guide(16);
        day.guide(247);
        CHECK.same("the one that someone speaks for", day.plan(), 1);
        CHECK.same("none", day.planned(0), -1);
        CHECK.same("the least", day.planned(1), 0);
    }

    /** Of equal ones TOUR 0 would rather have the highest GUIDE than none, then TOUR 1, and so on. */
    private static void noneIsTheLast() {
        ShoreDay day = new ShoreDay();
        day.tour(5, 5, 10, 5);
        day.tour(5, 5, 10, 0);
        for (int i = 0; i < 5; i++) {
            day.guide(128);
        }
        day.guide(33);
        CHECK.same("one of two", day.plan(), 10);
        CHECK.same("tour 0 has guide 5", day.planned(0), 5);
        CHECK.same("tour 1 has none", day.planned(1), -1);
        ShoreDay sums = new ShoreDay();
        sums.tour(5, 5, 10, 0);
        sums.tour(5, 5, 4, 1);
        sums.tour(5, 5, 6, 2);
        sums.guide(3);
        sums.guide(5);
        CHECK.same("16, not 10", sums.plan(), 16);
        CHECK.same("tour 0", sums.planned(0), 0);
        CHECK.same("tour 1", sums.planned(1), -1);
        CHECK.same("tour 2", sums.planned(2), 1);
    }

    /** A PLAN stands till the next one, whatever comes; TOURS that began, or are over, are in it. */
    private static void begunToursAndLaterCalls() {
        ShoreDay day = new ShoreDay();
        day.tour(5, 5, 10, 0);
        day.guide(1);
        day.minutes(100);
        CHECK.same("a tour that is over", day.plan(), 10);
        day.guide(0);
        day.guide(256);
        day.tour(100, 5, 5, 0);
        CHECK.same("refused calls change no plan", day.planned(0), 0);
        CHECK.same("refused tour", day.planned(1), -1);
        day.guide(1);
        day.tour(101, 5, 5, 0);
        day.minutes(100);
        CHECK.same("neither do others", day.planned(0), 0);
        CHECK.same("planned ahead of it", day.planned(1), -1);
        CHECK.same("the next plan", day.plan(), 15);
        CHECK.same("has it", day.planned(1), 1);
        CHECK.same("the same once more", day.plan(), 15);
    }

    private static void againstAllPlans() {
        Random random = new Random(4);
        for (int run = 0; run < 300; run++) {
            int[] tongues = new int[random.nextInt(7)];
            int[] seats = new int[1 + random.nextInt(8)];
            int[] tongue = new int[seats.length];
            int spread = 1 + random.nextInt(8);
            int most = random.nextBoolean() ? 3 : 200;
            ShoreDay day = new ShoreDay();
            for (int i = 0; i < seats.length; i++) {
                seats[i] = 1 + random.nextInt(most);
                tongue[i] = random.nextInt(spread);
                day.tour(5, 5, seats[i], tongue[i]);
            }
            for (int i = 0; i < tongues.length; i++) {
                tongues[i] = 1 + random.nextInt(255);
                day.guide(tongues[i]);
            }
            AllPlans all = new AllPlans(tongues, seats, tongue);
            all.go(0, 0, 0);
            CHECK.same("seats of run " + run, day.plan(), all.best);
            for (int i = 0; i < seats.length; i++) {
                CHECK.same("tour " + i + " of run " + run, day.planned(i), all.bestPlan[i]);
            }
        }
    }

    /** Goes through all plans in the order in which equal ones are ranked, so the first of the best is it. */
    private static final class AllPlans {
        final int[] tongues;
        final int[] seats;
        final int[] tongue;
        final int[] plan;
        int[] bestPlan;
        int best = -1;

        AllPlans(int[] tongues, int[] seats, int[] tongue) {
            this.tongues = tongues;
            this.seats = seats;
            this.tongue = tongue;
            plan = new int[seats.length];
        }

        void go(int tour, int taken, int sum) {
            if (tour == seats.length) {
                if (sum > best) {
                    best = sum;
                    bestPlan = plan.clone();
                }
                return;
            }
            for (int guide = 0; guide < tongues.length; guide++) {
                if ((taken & 1 << guide) == 0 && (tongues[guide] & 1 << tongue[tour]) != 0) {
                    plan[tour] = guide;
                    go(tour + 1, taken | 1 << guide, sum + seats[tour]);
                }
            }
            plan[tour] = -1;
            go(tour + 1, taken, sum);
        }
    }
}
