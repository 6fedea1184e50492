/** A short tour of SlownessImager: README.md shows it, and what it prints. */
public final class Tour {
    public static void main(String[] args) {
        SlownessImager imager = new SlownessImager();
        imager.begin(4, 3);                      // 4 columns, 3 rows, all slownesses 1000
        imager.setTrue(5, 3000);                 // the true model: a slow cell in column 1, row 1

        for (int row = 0; row < 3; row++) {
            imager.addRay(row, row);             // rays 0 to 2, straight across
        }
        imager.addRay(0, 2);                     // ray 3, downwards
        imager.observe(0, 0);                    // observed times, from the true model, no noise

        System.out.println("residual of ray 1: " + imager.residual(1));
        System.out.println("sum of residuals:  " + imager.fit(0));
        imager.setBounds(500, 5000);             // corrections stay between these
        imager.setOrder(800, 2, 0);              // relaxation 0.8, the greatest residual first
        System.out.println("corrections made:  " + imager.sweep(5));
        System.out.println("sum of residuals:  " + imager.fit(0));
        System.out.println("way of ray 1:      " + way(imager, 1));
        System.out.println("if cell 5 had 500: " + imager.whatIf(1, 5, 500));
        System.out.println("states left:       " + imager.undo());
        System.out.println("sum of residuals:  " + imager.fit(0));

        type(imager, "take 5; sweep 2; smooth 10; fill;");
        System.out.println("commands done:     " + imager.run());
        imager.clearScript();
        type(imager, "sweep 2; smoth 10;");
        System.out.println("fault at byte:     " + (-10 - imager.run()));

        try {
            imager.setCell(12, 1000);
        } catch (IndexOutOfBoundsException e) {
            System.out.println("there is no cell 12");
        }
    }

    private static String way(SlownessImager imager, int ray) {
        StringBuilder cells = new StringBuilder();
        for (int i = 0; i < imager.ray(ray, 4); i++) {
            cells.append(i == 0 ? "" : " ").append(imager.wayCell(ray, i));
        }
        return cells.toString();
    }

    private static void type(SlownessImager imager, String script) {
        for (int i = 0; i < script.length(); i++) {
            imager.type(script.charAt(i));
        }
    }
}
