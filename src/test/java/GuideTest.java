import java.util.Random;

/** Promises 12 and 13 and section 4 of the terms; each PLAN is held against all that there are. */
public final class GuideTest {
    private static final Check CHECK = new Check("GuideTest");

    public static void main(String[] args) {
        nothingYet();
        equalOnes();
        seatsAreNotSeatsLeft();
        latestPlan();
        againstAllPlans();
        CHECK.end();
    }

    private static void nothingYet() {
        ShoreDay day = new ShoreDay();
        CHECK.same("no tour, no guide", day.plan(), 0);
        day.guide(255);
        CHECK.same("no tour", day.plan(), 0);
        CHECK.same("none such", day.planned(0), -1);
        CHECK.same("none such", day.planned(-1), -1);
        CHECK.same("none such", day.planned(8), -1);
        CHECK.same("none such", day.planned(Integer.MIN_VALUE), -1);
        CHECK.same("none such", day.planned(Integer.MAX_VALUE), -1);
        day.tour(5, 5, 50, 7);
        CHECK.same("planned ahead of it", day.planned(0), -1);
        CHECK.same("the plan", day.plan(), 50);
        CHECK.same("its guide", day.planned(0), 0);
    }

    private static void equalOnes() {
        ShoreDay day = new ShoreDay();
        day.tour(5, 5, 10, 0);
        day.tour(5, 5, 10, 0);
        day.tour(5, 5, 10, 0);
        day.guide(1);
        day.guide(3);
        CHECK.same("two of three", day.plan(), 20);
        CHECK.same("tour 0 has the least", day.planned(0), 0);
        CHECK.same("tour 1 the next", day.planned(1), 1);
        CHECK.same("none is the last", day.planned(2), -1);
        ShoreDay other = new ShoreDay();
        other.tour(5, 5, 10, 0);
        other.tour(5, 5, 10, 1);
        other.guide(3);
        other.guide(1);
        CHECK.same("both", other.plan(), 20);
        CHECK.same("tour 0 leaves the one who speaks both", other.planned(0), 1);
        CHECK.same("tour 1 has it", other.planned(1), 0);
    }

    private static void seatsAreNotSeatsLeft() {
        ShoreDay day = new ShoreDay();
        day.ship(1, 700, 0);
        day.tender(0, 50);
        day.tour(3, 5, 50, 0);
        day.group(0, 45, 0, 0, 0, 0);
        day.guide(1);
        day.minutes(10);
        CHECK.same("45 rode", day.rides(0, 0), 45);
        CHECK.same("all the seats", day.plan(), 50);
    }

    private static void latestPlan() {
        ShoreDay day = new ShoreDay();
        day.tour(5, 5, 10, 0);
        day.guide(1);
        CHECK.same("no plan yet", day.planned(0), -1);
        day.plan();
        CHECK.same("planned", day.planned(0), 0);
        day.tour(5, 5, 20, 0);
        CHECK.same("as planned", day.planned(0), 0);
        CHECK.same("planned ahead of it", day.planned(1), -1);
        CHECK.same("the new plan", day.plan(), 20);
        CHECK.same("lost its guide", day.planned(0), -1);
        CHECK.same("has it", day.planned(1), 0);
        day.guide(1);
        CHECK.same("a guide more changes no plan", day.planned(0), -1);
        CHECK.same("the next one does", day.plan(), 30);
    }

    private static void againstAllPlans() {
        Random random = new Random(4);
        for (int run = 0; run < 300; run++) {
            int[] tongues = new int[random.nextInt(7)];
            int[] seats = new int[1 + random.nextInt(8)];
            int[] tongue = new int[seats.length];
            int spread = 1 + random.nextInt(8);
            int most = random.nextBoolean() ? 3 : 200;
            ShoreDay day = new ShoreDay();
            for (int i = 0; i < seats.length; i++) {
                seats[i] = 1 + random.nextInt(most);
                tongue[i] = random.nextInt(spread);
                day.tour(5, 5, seats[i], tongue[i]);
            }
            for (int i = 0; i < tongues.length; i++) {
                tongues[i] = 1 + random.nextInt(255);
                day.guide(tongues[i]);
            }
            AllPlans all = new AllPlans(tongues, seats, tongue);
            all.go(0, 0, 0);
            CHECK.same("seats of run " + run, day.plan(), all.best);
            for (int i = 0; i < seats.length; i++) {
                CHECK.same("tour " + i + " of run " + run, day.planned(i), all.bestPlan[i]);
            }
        }
    }

    /** Goes through all plans in the order in which equal ones are ranked, so the first of the best is it. */
    private static final class AllPlans {
        final int[] tongues;
        final int[] seats;
        final int[] tongue;
        final int[] plan;
        int[] bestPlan;
        int best = -1;

        AllPlans(int[] tongues, int[] seats, int[] tongue) {
            this.tongues = tongues;
            this.seats = seats;
            this.tongue = tongue;
            plan = new int[seats.length];
        }

        void go(int tour, int taken, int sum) {
            if (tour == seats.length) {
                if (sum > best) {
                    best = sum;
                    bestPlan = plan.clone();
                }
                return;
            }
            for (int guide = 0; guide < tongues.length; guide++) {
                if ((taken & 1 << guide) == 0 && (tongues[guide] & 1 << tongue[tour]) != 0) {
                    plan[tour] = guide;
                    go(tour + 1, taken | 1 << guide, sum + seats[tour]);
                }
            }
            plan[tour] = -1;
            go(tour + 1, taken, sum);
        }
    }
}
