public final class Example {
    public static void main(String[] args) {
        // room for 4 neighbours, reachable for 10 ticks, solicitations 2 ticks apart, at most 3 of them
        NeighborCache cache = new NeighborCache(4, 10, 2, 3);
        cache.addRouter(7);
        cache.addRouter(8);
        cache.send(30, true);                                   // off-link, so by router 7; it waits
        for (int t = 0; t < 6; t++) {
            cache.tick();                                       // router 7 stays silent and fails
        }
        cache.send(31, true);                                   // so by router 8
        cache.receiveNA(8, 800, NeighborCache.FLAG_SOLICITED);  // router 8 answers: packet 2 goes out
        for (int n = 0; n < cache.frameCount(); n++) {
            System.out.println("frame " + n
                + ": kind " + cache.frameField(n, NeighborCache.FIELD_KIND)
                + " target " + cache.frameField(n, NeighborCache.FIELD_TARGET)
                + " link " + cache.frameField(n, NeighborCache.FIELD_LINK)
                + " packet " + cache.frameField(n, NeighborCache.FIELD_PACKET)
                + " hop " + cache.frameField(n, NeighborCache.FIELD_HOP));
        }
        System.out.println("dropped " + cache.dropped() + ", default router " + cache.defaultRouter());
    }
}
